theorem d8_selectOf_0 : jda cX8_selectOf 0 0 1 := Or.inl ⟨0, by decide +kernel⟩
theorem d8_selectOf_1 : jd cX8_selectOf 1 (.getfield 25) 3 4 := by decide +kernel
theorem d8_selectOf_4 : jdi cX8_selectOf 4 1 5 := Or.inl ⟨1, by decide +kernel⟩
theorem d8_selectOf_5 : jdk cX8_selectOf 5 0 6 := Or.inl ⟨0, by decide +kernel⟩
theorem d8_selectOf_6 : jd cX8_selectOf 6 (.invokevirtual 52) 3 9 := by decide +kernel
theorem d8_selectOf_9 : jds cX8_selectOf 9 2 10 := Or.inl ⟨2, by decide +kernel⟩
theorem d8_selectOf_10 : jda cX8_selectOf 10 0 11 := Or.inl ⟨0, by decide +kernel⟩
theorem d8_selectOf_11 : jd cX8_selectOf 11 (.getfield 25) 3 14 := by decide +kernel
theorem d8_selectOf_14 : jdi cX8_selectOf 14 1 15 := Or.inl ⟨1, by decide +kernel⟩
theorem d8_selectOf_15 : jdk cX8_selectOf 15 0 16 := Or.inl ⟨0, by decide +kernel⟩
theorem d8_selectOf_16 : jd cX8_selectOf 16 (.invokevirtual 58) 3 19 := by decide +kernel
theorem d8_selectOf_19 : jdb cX8_selectOf 19 (.ifCond .eq 20) 20 39 22 := by decide +kernel
theorem d8_selectOf_22 : jdi cX8_selectOf 22 2 23 := Or.inl ⟨2, by decide +kernel⟩
theorem d8_selectOf_23 : jda cX8_selectOf 23 0 24 := Or.inl ⟨0, by decide +kernel⟩
theorem d8_selectOf_24 : jd cX8_selectOf 24 (.getfield 25) 3 27 := by decide +kernel
theorem d8_selectOf_27 : jd cX8_selectOf 27 (.getfield 62) 3 30 := by decide +kernel
theorem d8_selectOf_30 : jdi cX8_selectOf 30 1 31 := Or.inl ⟨1, by decide +kernel⟩
theorem d8_selectOf_31 : jd cX8_selectOf 31 (.invokestatic 65) 3 34 := by decide +kernel
theorem d8_selectOf_34 : jd cX8_selectOf 34 (.iaload) 1 35 := by decide +kernel
theorem d8_selectOf_35 : jd cX8_selectOf 35 (.ior) 1 36 := by decide +kernel
theorem d8_selectOf_36 : jdb cX8_selectOf 36 (.goto 4) 4 40 39 := by decide +kernel
theorem d8_selectOf_39 : jdi cX8_selectOf 39 2 40 := Or.inl ⟨2, by decide +kernel⟩
theorem d8_selectOf_40 : decode cX8_selectOf 40 = .ok (.ireturn, 1) := by decide +kernel
set_option maxHeartbeats 4000000 in
set_option maxRecDepth 100000 in
theorem kX8_selectOf (l : Launch) (D : va_G) (tc : jTC) (N : Nat) (h_ h_sets h_sets_first h_sets_follow : Nat) (g_rules g_select g_possible g_lowest g_conflicts g_sets_begins : Value) (c_sets_nullable : Int32) (c_sets_first : (Nat → Int32)) (c_sets_follow : (Nat → Int32)) (p1 : Int32) : ctI0 l D tc yX8_selectOf (Cond.code yX8_selectOf cX8_selectOf 3 (some .int) :: jtb) ({ frames := 3, cells := 0, slots := 0, locals := 66 } : Room) [.ref h_, .int p1] [(h_, .inr (8, [g_rules, .ref h_sets, g_select, g_possible, g_lowest, g_conflicts])), (h_sets, .inr (7, [.int c_sets_nullable, .ref h_sets_first, .ref h_sets_follow, g_sets_begins])), (h_sets_first, .inl (tc.1, 8, .inl c_sets_first)), (h_sets_follow, .inl (tc.1, 8, .inl c_sets_follow))] (fX8_selectOf N c_sets_nullable c_sets_first c_sets_follow p1) := by
  refine ctI0_of (lv0 := [(0, .ref h_), (1, .int p1)]) (by decide +kernel) (Nat.le_of_ble_eq_true rfl) rfl (fun X C => ?_)
  unfold fX8_selectOf
  refine j_aload C d8_selectOf_0 0 rfl ?_
  refine j_get C d8_selectOf_1 fl8_25 0 rfl rfl ?_
  refine j_iload C d8_selectOf_4 1 rfl ?_
  refine j_const C d8_selectOf_5 ?_
  refine j_callVI0 (As := [.int p1, .int 0]) C d8_selectOf_6 mv8_52 (kX7_firstFrom _ _ tc N h_sets h_sets_first (.ref h_sets_follow) g_sets_begins c_sets_nullable c_sets_first p1 0) ⟨rfl, rfl, Nat.le_of_ble_eq_true rfl, Nat.le_of_ble_eq_true rfl⟩ rfl 1 rfl [1, 2] rfl rfl rfl (Nat.le_of_ble_eq_true rfl) (fun x1 => ?_)
  refine j_istore C d8_selectOf_9 (by decide) (lv' := [(2, .int x1), (0, .ref h_), (1, .int p1)]) rfl ?_
  refine j_aload C d8_selectOf_10 1 rfl ?_
  refine j_get C d8_selectOf_11 fl8_25 0 rfl rfl ?_
  refine j_iload C d8_selectOf_14 2 rfl ?_
  refine j_const C d8_selectOf_15 ?_
  refine j_callVI0 (As := [.int p1, .int 0]) C d8_selectOf_16 mv8_58 (kX7_vanishes _ _ tc N h_sets (.ref h_sets_first) (.ref h_sets_follow) g_sets_begins c_sets_nullable p1 0) ⟨rfl, rfl, Nat.le_of_ble_eq_true rfl, Nat.le_of_ble_eq_true rfl⟩ rfl 1 rfl [1] rfl rfl rfl (Nat.le_of_ble_eq_true rfl) (fun x2 => ?_)
  refine j_join 40 (fun v3 => [(h_, .inr (8, [g_rules, .ref h_sets, g_select, g_possible, g_lowest, g_conflicts])), (h_sets, .inr (7, [.int c_sets_nullable, .ref h_sets_first, .ref h_sets_follow, g_sets_begins])), (h_sets_first, .inl (tc.1, 8, .inl c_sets_first)), (h_sets_follow, .inl (tc.1, 8, .inl c_sets_follow))]) (fun v3 => []) (fun v3 => [.int v3]) (fun v3 => ?_) (fun k4 hk4 => ?_)
  · exact j_iret0 C d8_selectOf_40
  · refine j_if_eq C d8_selectOf_19 ?_ ?_
    · refine j_iload C d8_selectOf_39 0 rfl ?_
      exact j_sub [] rfl (hk4 _)
    · refine j_iload C d8_selectOf_22 0 rfl ?_
      refine j_aload C d8_selectOf_23 1 rfl ?_
      refine j_get C d8_selectOf_24 fl8_25 0 rfl rfl ?_
      refine j_get C d8_selectOf_27 fl8_62 1 rfl rfl ?_
      refine j_iload C d8_selectOf_30 2 rfl ?_
      refine j_callSI0 (As := [.int p1]) C d8_selectOf_31 ms8_65 (kX6_leftOf _ _ tc p1) ⟨rfl, rfl, Nat.le_of_ble_eq_true rfl, Nat.le_of_ble_eq_true rfl⟩ rfl [] rfl rfl rfl (Nat.le_of_ble_eq_true rfl) (fun x5 => ?_)
      refine j_iald C d8_selectOf_34 3 rfl (fun x6 => ?_)
      refine j_ior C d8_selectOf_35 ?_
      refine j_goto C d8_selectOf_36 ?_
      exact j_sub [] rfl (hk4 _)

theorem d8_enter_0 : jda cX8_enter 0 0 1 := Or.inl ⟨0, by decide +kernel⟩
theorem d8_enter_1 : jd cX8_enter 1 (.getfield 21) 3 4 := by decide +kernel
theorem d8_enter_4 : jd cX8_enter 4 (.getfield 35) 3 7 := by decide +kernel
theorem d8_enter_7 : jdi cX8_enter 7 1 8 := Or.inl ⟨1, by decide +kernel⟩
theorem d8_enter_8 : jd cX8_enter 8 (.iaload) 1 9 := by decide +kernel
theorem d8_enter_9 : jd cX8_enter 9 (.invokestatic 65) 3 12 := by decide +kernel
theorem d8_enter_12 : jdk cX8_enter 12 9 14 := Or.inr (Or.inl ⟨9, by decide +kernel⟩)
theorem d8_enter_14 : jd cX8_enter 14 (.imul) 1 15 := by decide +kernel
theorem d8_enter_15 : jds cX8_enter 15 2 16 := Or.inl ⟨2, by decide +kernel⟩
theorem d8_enter_16 : jdk cX8_enter 16 0 17 := Or.inl ⟨0, by decide +kernel⟩
theorem d8_enter_17 : jds cX8_enter 17 3 18 := Or.inl ⟨3, by decide +kernel⟩
theorem d8_enter_18 : jdi cX8_enter 18 3 19 := Or.inl ⟨3, by decide +kernel⟩
theorem d8_enter_19 : jdk cX8_enter 19 9 21 := Or.inr (Or.inl ⟨9, by decide +kernel⟩)
theorem d8_enter_21 : jdb cX8_enter 21 (.if_icmp .ge 44) 44 65 24 := by decide +kernel
theorem d8_enter_24 : jda cX8_enter 24 0 25 := Or.inl ⟨0, by decide +kernel⟩
theorem d8_enter_25 : jd cX8_enter 25 (.getfield 9) 3 28 := by decide +kernel
theorem d8_enter_28 : jdi cX8_enter 28 1 29 := Or.inl ⟨1, by decide +kernel⟩
theorem d8_enter_29 : jd cX8_enter 29 (.iaload) 1 30 := by decide +kernel
theorem d8_enter_30 : jdi cX8_enter 30 3 31 := Or.inl ⟨3, by decide +kernel⟩
theorem d8_enter_31 : jd cX8_enter 31 (.invokestatic 68) 3 34 := by decide +kernel
theorem d8_enter_34 : jdk cX8_enter 34 1 35 := Or.inl ⟨1, by decide +kernel⟩
theorem d8_enter_35 : jdb cX8_enter 35 (.if_icmp .ne 24) 24 59 38 := by decide +kernel
theorem d8_enter_38 : jda cX8_enter 38 0 39 := Or.inl ⟨0, by decide +kernel⟩
theorem d8_enter_39 : jd cX8_enter 39 (.getfield 15) 3 42 := by decide +kernel
theorem d8_enter_42 : jdi cX8_enter 42 2 43 := Or.inl ⟨2, by decide +kernel⟩
theorem d8_enter_43 : jdi cX8_enter 43 3 44 := Or.inl ⟨3, by decide +kernel⟩
theorem d8_enter_44 : jd cX8_enter 44 (.iadd) 1 45 := by decide +kernel
theorem d8_enter_45 : jd cX8_enter 45 (.dup2) 1 46 := by decide +kernel
theorem d8_enter_46 : jd cX8_enter 46 (.iaload) 1 47 := by decide +kernel
theorem d8_enter_47 : jdk cX8_enter 47 1 48 := Or.inl ⟨1, by decide +kernel⟩
theorem d8_enter_48 : jd cX8_enter 48 (.iadd) 1 49 := by decide +kernel
theorem d8_enter_49 : jd cX8_enter 49 (.iastore) 1 50 := by decide +kernel
theorem d8_enter_50 : jda cX8_enter 50 0 51 := Or.inl ⟨0, by decide +kernel⟩
theorem d8_enter_51 : jd cX8_enter 51 (.getfield 18) 3 54 := by decide +kernel
theorem d8_enter_54 : jdi cX8_enter 54 2 55 := Or.inl ⟨2, by decide +kernel⟩
theorem d8_enter_55 : jdi cX8_enter 55 3 56 := Or.inl ⟨3, by decide +kernel⟩
theorem d8_enter_56 : jd cX8_enter 56 (.iadd) 1 57 := by decide +kernel
theorem d8_enter_57 : jdi cX8_enter 57 1 58 := Or.inl ⟨1, by decide +kernel⟩
theorem d8_enter_58 : jd cX8_enter 58 (.iastore) 1 59 := by decide +kernel
theorem d8_enter_59 : jd cX8_enter 59 (.iinc 3 1) 3 62 := by decide +kernel
theorem d8_enter_62 : jdb cX8_enter 62 (.goto (-44)) (-44) 18 65 := by decide +kernel
theorem d8_enter_65 : decode cX8_enter 65 = .ok (.return_, 1) := by decide +kernel
set_option maxHeartbeats 4000000 in
set_option maxRecDepth 100000 in
theorem wX8_enter_18 {X : jC} {tc : jTC} (C : jx X cX8_enter 4 RX8 none tc ({ frames := 1, cells := 0, slots := 0, locals := 21 } : Room)) (h_ h_rules h_rules_codes h_select h_possible h_lowest : Nat) (g_sets g_conflicts g_rules_count : Value) (p1 : Int32) (c_rules_codes : (Nat → Int32)) (c_select : (Nat → Int32)) (x3 : Int32) (k6 : ((Nat → Int32) → (Nat → Int32) → Option ((Nat → Int32) × (Nat → Int32)))) (hk6 : ∀ (v20 : (Nat → Int32)) (v21 : (Nat → Int32)), jo X 4 (0, 0) (jQV X (fun (u : (Nat → Int32) × (Nat → Int32)) => [(h_, .inr (8, [.ref h_rules, g_sets, .ref h_select, .ref h_possible, .ref h_lowest, g_conflicts])), (h_rules, .inr (6, [.ref h_rules_codes, g_rules_count])), (h_rules_codes, .inl (tc.1, 24, .inl c_rules_codes)), (h_select, .inl (tc.1, 24, .inl c_select)), (h_possible, .inl (tc.1, 72, .inl u.1)), (h_lowest, .inl (tc.1, 72, .inl u.2))])) (k6 v20 v21) [(h_, .inr (8, [.ref h_rules, g_sets, .ref h_select, .ref h_possible, .ref h_lowest, g_conflicts])), (h_rules, .inr (6, [.ref h_rules_codes, g_rules_count])), (h_rules_codes, .inl (tc.1, 24, .inl c_rules_codes)), (h_select, .inl (tc.1, 24, .inl c_select)), (h_possible, .inl (tc.1, 72, .inl v20)), (h_lowest, .inl (tc.1, 72, .inl v21))] 65 [] []) (rc10 : Int32 → (Nat → Int32) → (Nat → Int32) → Option ((Nat → Int32) × (Nat → Int32))) (hrc10 : ∀ (v7 : Int32) (v8 : (Nat → Int32)) (v9 : (Nat → Int32)), jo X 4 (0, 0) (jQV X (fun (u : (Nat → Int32) × (Nat → Int32)) => [(h_, .inr (8, [.ref h_rules, g_sets, .ref h_select, .ref h_possible, .ref h_lowest, g_conflicts])), (h_rules, .inr (6, [.ref h_rules_codes, g_rules_count])), (h_rules_codes, .inl (tc.1, 24, .inl c_rules_codes)), (h_select, .inl (tc.1, 24, .inl c_select)), (h_possible, .inl (tc.1, 72, .inl u.1)), (h_lowest, .inl (tc.1, 72, .inl u.2))])) (rc10 v7 v8 v9) [(h_, .inr (8, [.ref h_rules, g_sets, .ref h_select, .ref h_possible, .ref h_lowest, g_conflicts])), (h_rules, .inr (6, [.ref h_rules_codes, g_rules_count])), (h_rules_codes, .inl (tc.1, 24, .inl c_rules_codes)), (h_select, .inl (tc.1, 24, .inl c_select)), (h_possible, .inl (tc.1, 72, .inl v8)), (h_lowest, .inl (tc.1, 72, .inl v9))] 18 [(0, .ref h_), (1, .int p1), (2, .int x3), (3, .int v7)] []) (v7 : Int32) (v8 : (Nat → Int32)) (v9 : (Nat → Int32)) : jo X 4 (0, 0) (jQV X (fun (u : (Nat → Int32) × (Nat → Int32)) => [(h_, .inr (8, [.ref h_rules, g_sets, .ref h_select, .ref h_possible, .ref h_lowest, g_conflicts])), (h_rules, .inr (6, [.ref h_rules_codes, g_rules_count])), (h_rules_codes, .inl (tc.1, 24, .inl c_rules_codes)), (h_select, .inl (tc.1, 24, .inl c_select)), (h_possible, .inl (tc.1, 72, .inl u.1)), (h_lowest, .inl (tc.1, 72, .inl u.2))])) (bX8_enter_18 p1 c_select x3 k6 rc10 v7 v8 v9) [(h_, .inr (8, [.ref h_rules, g_sets, .ref h_select, .ref h_possible, .ref h_lowest, g_conflicts])), (h_rules, .inr (6, [.ref h_rules_codes, g_rules_count])), (h_rules_codes, .inl (tc.1, 24, .inl c_rules_codes)), (h_select, .inl (tc.1, 24, .inl c_select)), (h_possible, .inl (tc.1, 72, .inl v8)), (h_lowest, .inl (tc.1, 72, .inl v9))] 18 [(0, .ref h_), (1, .int p1), (2, .int x3), (3, .int v7)] [] := by
  unfold bX8_enter_18
  refine j_iload C d8_enter_18 3 rfl ?_
  refine j_const C d8_enter_19 ?_
  refine j_icmp_ge C d8_enter_21 ?_ ?_
  · exact j_sub [] rfl (hk6 _ _)
  · refine j_aload C d8_enter_24 0 rfl ?_
    refine j_get C d8_enter_25 fl8_9 0 rfl rfl ?_
    refine j_iload C d8_enter_28 1 rfl ?_
    refine j_iald C d8_enter_29 3 rfl (fun x11 => ?_)
    refine j_iload C d8_enter_30 3 rfl ?_
    refine j_callNI0 (As := [.int x11, .int v7]) C d8_enter_31 mn8_68 (kX11_bit _ _ tc x11 v7) ⟨rfl, rfl, Nat.le_of_ble_eq_true rfl, Nat.le_of_ble_eq_true rfl⟩ rfl [] rfl rfl rfl (Nat.le_of_ble_eq_true rfl) (fun x12 => ?_)
    refine j_const C d8_enter_34 ?_
    refine j_join2 59 (fun v13 v14 => [(h_, .inr (8, [.ref h_rules, g_sets, .ref h_select, .ref h_possible, .ref h_lowest, g_conflicts])), (h_rules, .inr (6, [.ref h_rules_codes, g_rules_count])), (h_rules_codes, .inl (tc.1, 24, .inl c_rules_codes)), (h_select, .inl (tc.1, 24, .inl c_select)), (h_possible, .inl (tc.1, 72, .inl v13)), (h_lowest, .inl (tc.1, 72, .inl v14))]) (fun v13 v14 => [(0, .ref h_), (1, .int p1), (2, .int x3), (3, .int v7)]) (fun v13 v14 => []) (fun v13 v14 => ?_) (fun k16 hk16 => ?_)
    · refine j_iincN C (fun x15 => [(3, .int x15), (0, .ref h_), (1, .int p1), (2, .int x3)]) d8_enter_59 3 rfl (by decide +kernel) (by decide) (fun _ => rfl) (fun x15 => ?_)
      refine j_goto C d8_enter_62 ?_
      exact j_sub [1, 2, 3, 0] rfl (hrc10 _ _ _)
    · refine j_icmp_ne C d8_enter_35 ?_ ?_
      · exact hk16 _ _
      · refine j_aload C d8_enter_38 0 rfl ?_
        refine j_get C d8_enter_39 fl8_15 0 rfl rfl ?_
        refine j_iload C d8_enter_42 2 rfl ?_
        refine j_iload C d8_enter_43 3 rfl ?_
        refine j_iadd C d8_enter_44 ?_
        refine j_dup2 C d8_enter_45 rfl rfl ?_
        refine j_iald C d8_enter_46 4 rfl (fun x17 => ?_)
        refine j_const C d8_enter_47 ?_
        refine j_iadd C d8_enter_48 ?_
        refine j_iast C (fun f18 => [(h_, .inr (8, [.ref h_rules, g_sets, .ref h_select, .ref h_possible, .ref h_lowest, g_conflicts])), (h_rules, .inr (6, [.ref h_rules_codes, g_rules_count])), (h_rules_codes, .inl (tc.1, 24, .inl c_rules_codes)), (h_select, .inl (tc.1, 24, .inl c_select)), (h_possible, .inl (tc.1, 72, .inl f18)), (h_lowest, .inl (tc.1, 72, .inl v9))]) d8_enter_49 4 rfl (fun _ => rfl) (fun f18 => ?_)
        refine j_aload C d8_enter_50 0 rfl ?_
        refine j_get C d8_enter_51 fl8_18 0 rfl rfl ?_
        refine j_iload C d8_enter_54 2 rfl ?_
        refine j_iload C d8_enter_55 3 rfl ?_
        refine j_iadd C d8_enter_56 ?_
        refine j_iload C d8_enter_57 1 rfl ?_
        refine j_iast C (fun f19 => [(h_, .inr (8, [.ref h_rules, g_sets, .ref h_select, .ref h_possible, .ref h_lowest, g_conflicts])), (h_rules, .inr (6, [.ref h_rules_codes, g_rules_count])), (h_rules_codes, .inl (tc.1, 24, .inl c_rules_codes)), (h_select, .inl (tc.1, 24, .inl c_select)), (h_possible, .inl (tc.1, 72, .inl f18)), (h_lowest, .inl (tc.1, 72, .inl f19))]) d8_enter_58 5 rfl (fun _ => rfl) (fun f19 => ?_)
        exact hk16 _ _

set_option maxHeartbeats 4000000 in
set_option maxRecDepth 100000 in
theorem kX8_enter (l : Launch) (D : va_G) (tc : jTC) (N : Nat) (h_ h_rules h_rules_codes h_select h_possible h_lowest : Nat) (g_sets g_conflicts g_rules_count : Value) (c_rules_codes : (Nat → Int32)) (c_select : (Nat → Int32)) (c_possible : (Nat → Int32)) (c_lowest : (Nat → Int32)) (p1 : Int32) : ctV l D tc yX8_enter (Cond.code yX8_enter cX8_enter 4 none :: jtb) ({ frames := 1, cells := 0, slots := 0, locals := 21 } : Room) [.ref h_, .int p1] [(h_, .inr (8, [.ref h_rules, g_sets, .ref h_select, .ref h_possible, .ref h_lowest, g_conflicts])), (h_rules, .inr (6, [.ref h_rules_codes, g_rules_count])), (h_rules_codes, .inl (tc.1, 24, .inl c_rules_codes)), (h_select, .inl (tc.1, 24, .inl c_select)), (h_possible, .inl (tc.1, 72, .inl c_possible)), (h_lowest, .inl (tc.1, 72, .inl c_lowest))] (fX8_enter N c_rules_codes c_select c_possible c_lowest p1) (fun (u : (Nat → Int32) × (Nat → Int32)) => [(h_, .inr (8, [.ref h_rules, g_sets, .ref h_select, .ref h_possible, .ref h_lowest, g_conflicts])), (h_rules, .inr (6, [.ref h_rules_codes, g_rules_count])), (h_rules_codes, .inl (tc.1, 24, .inl c_rules_codes)), (h_select, .inl (tc.1, 24, .inl c_select)), (h_possible, .inl (tc.1, 72, .inl u.1)), (h_lowest, .inl (tc.1, 72, .inl u.2))]) := by
  refine ctV_of (lv0 := [(0, .ref h_), (1, .int p1)]) (by decide +kernel) (Nat.le_of_ble_eq_true rfl) rfl (fun X C => ?_)
  unfold fX8_enter
  refine j_aload C d8_enter_0 0 rfl ?_
  refine j_get C d8_enter_1 fl8_21 0 rfl rfl ?_
  refine j_get C d8_enter_4 fl8_35 1 rfl rfl ?_
  refine j_iload C d8_enter_7 1 rfl ?_
  refine j_iald C d8_enter_8 2 rfl (fun x1 => ?_)
  refine j_callSI0 (As := [.int x1]) C d8_enter_9 ms8_65 (kX6_leftOf _ _ tc x1) ⟨rfl, rfl, Nat.le_of_ble_eq_true rfl, Nat.le_of_ble_eq_true rfl⟩ rfl [] rfl rfl rfl (Nat.le_of_ble_eq_true rfl) (fun x2 => ?_)
  refine j_const C d8_enter_12 ?_
  refine j_imul C d8_enter_14 ?_
  refine j_leti (fun x3 => ?_)
  refine j_istore C d8_enter_15 (by decide) (lv' := [(2, .int x3), (0, .ref h_), (1, .int p1)]) rfl ?_
  refine j_const C d8_enter_16 ?_
  refine j_istore C d8_enter_17 (by decide) (lv' := [(3, .int 0), (2, .int x3), (0, .ref h_), (1, .int p1)]) rfl ?_
  refine j_join2 65 (fun v4 v5 => [(h_, .inr (8, [.ref h_rules, g_sets, .ref h_select, .ref h_possible, .ref h_lowest, g_conflicts])), (h_rules, .inr (6, [.ref h_rules_codes, g_rules_count])), (h_rules_codes, .inl (tc.1, 24, .inl c_rules_codes)), (h_select, .inl (tc.1, 24, .inl c_select)), (h_possible, .inl (tc.1, 72, .inl v4)), (h_lowest, .inl (tc.1, 72, .inl v5))]) (fun v4 v5 => []) (fun v4 v5 => []) (fun v4 v5 => ?_) (fun k6 hk6 => ?_)
  · exact j_vret C d8_enter_65 rfl
  · exact j_sub [2, 3, 1, 0] rfl (j_loop3 (fun v7 v8 v9 => [(h_, .inr (8, [.ref h_rules, g_sets, .ref h_select, .ref h_possible, .ref h_lowest, g_conflicts])), (h_rules, .inr (6, [.ref h_rules_codes, g_rules_count])), (h_rules_codes, .inl (tc.1, 24, .inl c_rules_codes)), (h_select, .inl (tc.1, 24, .inl c_select)), (h_possible, .inl (tc.1, 72, .inl v8)), (h_lowest, .inl (tc.1, 72, .inl v9))]) (fun v7 v8 v9 => [(0, .ref h_), (1, .int p1), (2, .int x3), (3, .int v7)]) (fun rc10 hrc10 v7 v8 v9 => wX8_enter_18 C h_ h_rules h_rules_codes h_select h_possible h_lowest g_sets g_conflicts g_rules_count p1 c_rules_codes c_select x3 k6 hk6 rc10 hrc10 v7 v8 v9) N _ _ _)

theorem d8_pairsIn_0 : jda cX8_pairsIn 0 0 1 := Or.inl ⟨0, by decide +kernel⟩
theorem d8_pairsIn_1 : jd cX8_pairsIn 1 (.getfield 15) 3 4 := by decide +kernel
theorem d8_pairsIn_4 : jdi cX8_pairsIn 4 1 5 := Or.inl ⟨1, by decide +kernel⟩
theorem d8_pairsIn_5 : jd cX8_pairsIn 5 (.iaload) 1 6 := by decide +kernel
theorem d8_pairsIn_6 : jda cX8_pairsIn 6 0 7 := Or.inl ⟨0, by decide +kernel⟩
theorem d8_pairsIn_7 : jd cX8_pairsIn 7 (.getfield 15) 3 10 := by decide +kernel
theorem d8_pairsIn_10 : jdi cX8_pairsIn 10 1 11 := Or.inl ⟨1, by decide +kernel⟩
theorem d8_pairsIn_11 : jd cX8_pairsIn 11 (.iaload) 1 12 := by decide +kernel
theorem d8_pairsIn_12 : jdk cX8_pairsIn 12 1 13 := Or.inl ⟨1, by decide +kernel⟩
theorem d8_pairsIn_13 : jd cX8_pairsIn 13 (.isub) 1 14 := by decide +kernel
theorem d8_pairsIn_14 : jd cX8_pairsIn 14 (.imul) 1 15 := by decide +kernel
theorem d8_pairsIn_15 : jdk cX8_pairsIn 15 2 16 := Or.inl ⟨2, by decide +kernel⟩
theorem d8_pairsIn_16 : jd cX8_pairsIn 16 (.idiv) 1 17 := by decide +kernel
theorem d8_pairsIn_17 : decode cX8_pairsIn 17 = .ok (.ireturn, 1) := by decide +kernel
set_option maxHeartbeats 4000000 in
set_option maxRecDepth 100000 in
theorem kX8_pairsIn (l : Launch) (D : va_G) (tc : jTC) (h_ h_possible : Nat) (g_rules g_sets g_select g_lowest g_conflicts : Value) (c_possible : (Nat → Int32)) (p1 : Int32) : ctI0 l D tc yX8_pairsIn (Cond.code yX8_pairsIn cX8_pairsIn 2 (some .int) :: jtb) ({ frames := 0, cells := 0, slots := 0, locals := 0 } : Room) [.ref h_, .int p1] [(h_, .inr (8, [g_rules, g_sets, g_select, .ref h_possible, g_lowest, g_conflicts])), (h_possible, .inl (tc.1, 72, .inl c_possible))] (fX8_pairsIn c_possible p1) := by
  refine ctI0_of (lv0 := [(0, .ref h_), (1, .int p1)]) (by decide +kernel) (Nat.le_of_ble_eq_true rfl) rfl (fun X C => ?_)
  unfold fX8_pairsIn
  refine j_aload C d8_pairsIn_0 0 rfl ?_
  refine j_get C d8_pairsIn_1 fl8_15 0 rfl rfl ?_
  refine j_iload C d8_pairsIn_4 1 rfl ?_
  refine j_iald C d8_pairsIn_5 1 rfl (fun x1 => ?_)
  refine j_aload C d8_pairsIn_6 0 rfl ?_
  refine j_get C d8_pairsIn_7 fl8_15 0 rfl rfl ?_
  refine j_iload C d8_pairsIn_10 1 rfl ?_
  refine j_iald C d8_pairsIn_11 1 rfl (fun x2 => ?_)
  refine j_const C d8_pairsIn_12 ?_
  refine j_isub C d8_pairsIn_13 ?_
  refine j_imul C d8_pairsIn_14 ?_
  refine j_const C d8_pairsIn_15 ?_
  refine j_idiv C d8_pairsIn_16 (by decide) ?_
  exact j_iret0 C d8_pairsIn_17

theorem d8_compute_0 : jdk cX8_compute 0 0 1 := Or.inl ⟨0, by decide +kernel⟩
theorem d8_compute_1 : jds cX8_compute 1 1 2 := Or.inl ⟨1, by decide +kernel⟩
theorem d8_compute_2 : jdi cX8_compute 2 1 3 := Or.inl ⟨1, by decide +kernel⟩
theorem d8_compute_3 : jdk cX8_compute 3 72 5 := Or.inr (Or.inl ⟨72, by decide +kernel⟩)
theorem d8_compute_5 : jdb cX8_compute 5 (.if_icmp .ge 16) 16 21 8 := by decide +kernel
theorem d8_compute_8 : jda cX8_compute 8 0 9 := Or.inl ⟨0, by decide +kernel⟩
theorem d8_compute_9 : jd cX8_compute 9 (.getfield 15) 3 12 := by decide +kernel
theorem d8_compute_12 : jdi cX8_compute 12 1 13 := Or.inl ⟨1, by decide +kernel⟩
theorem d8_compute_13 : jdk cX8_compute 13 0 14 := Or.inl ⟨0, by decide +kernel⟩
theorem d8_compute_14 : jd cX8_compute 14 (.iastore) 1 15 := by decide +kernel
theorem d8_compute_15 : jd cX8_compute 15 (.iinc 1 1) 3 18 := by decide +kernel
theorem d8_compute_18 : jdb cX8_compute 18 (.goto (-16)) (-16) 2 21 := by decide +kernel
theorem d8_compute_21 : jda cX8_compute 21 0 22 := Or.inl ⟨0, by decide +kernel⟩
theorem d8_compute_22 : jd cX8_compute 22 (.getfield 21) 3 25 := by decide +kernel
theorem d8_compute_25 : jd cX8_compute 25 (.getfield 29) 3 28 := by decide +kernel
theorem d8_compute_28 : jdk cX8_compute 28 1 29 := Or.inl ⟨1, by decide +kernel⟩
theorem d8_compute_29 : jd cX8_compute 29 (.isub) 1 30 := by decide +kernel
theorem d8_compute_30 : jds cX8_compute 30 1 31 := Or.inl ⟨1, by decide +kernel⟩
theorem d8_compute_31 : jdi cX8_compute 31 1 32 := Or.inl ⟨1, by decide +kernel⟩
theorem d8_compute_32 : jdb cX8_compute 32 (.ifCond .lt 33) 33 65 35 := by decide +kernel
theorem d8_compute_35 : jda cX8_compute 35 0 36 := Or.inl ⟨0, by decide +kernel⟩
theorem d8_compute_36 : jd cX8_compute 36 (.getfield 9) 3 39 := by decide +kernel
theorem d8_compute_39 : jdi cX8_compute 39 1 40 := Or.inl ⟨1, by decide +kernel⟩
theorem d8_compute_40 : jda cX8_compute 40 0 41 := Or.inl ⟨0, by decide +kernel⟩
theorem d8_compute_41 : jda cX8_compute 41 0 42 := Or.inl ⟨0, by decide +kernel⟩
theorem d8_compute_42 : jd cX8_compute 42 (.getfield 21) 3 45 := by decide +kernel
theorem d8_compute_45 : jd cX8_compute 45 (.getfield 35) 3 48 := by decide +kernel
theorem d8_compute_48 : jdi cX8_compute 48 1 49 := Or.inl ⟨1, by decide +kernel⟩
theorem d8_compute_49 : jd cX8_compute 49 (.iaload) 1 50 := by decide +kernel
theorem d8_compute_50 : jd cX8_compute 50 (.invokevirtual 38) 3 53 := by decide +kernel
theorem d8_compute_53 : jd cX8_compute 53 (.iastore) 1 54 := by decide +kernel
theorem d8_compute_54 : jda cX8_compute 54 0 55 := Or.inl ⟨0, by decide +kernel⟩
theorem d8_compute_55 : jdi cX8_compute 55 1 56 := Or.inl ⟨1, by decide +kernel⟩
theorem d8_compute_56 : jd cX8_compute 56 (.invokevirtual 42) 3 59 := by decide +kernel
theorem d8_compute_59 : jd cX8_compute 59 (.iinc 1 (-1)) 3 62 := by decide +kernel
theorem d8_compute_62 : jdb cX8_compute 62 (.goto (-31)) (-31) 31 65 := by decide +kernel
theorem d8_compute_65 : jda cX8_compute 65 0 66 := Or.inl ⟨0, by decide +kernel⟩
theorem d8_compute_66 : jdk cX8_compute 66 0 67 := Or.inl ⟨0, by decide +kernel⟩
theorem d8_compute_67 : jd cX8_compute 67 (.putfield 46) 3 70 := by decide +kernel
theorem d8_compute_70 : jdk cX8_compute 70 0 71 := Or.inl ⟨0, by decide +kernel⟩
theorem d8_compute_71 : jds cX8_compute 71 1 72 := Or.inl ⟨1, by decide +kernel⟩
theorem d8_compute_72 : jdi cX8_compute 72 1 73 := Or.inl ⟨1, by decide +kernel⟩
theorem d8_compute_73 : jdk cX8_compute 73 72 75 := Or.inr (Or.inl ⟨72, by decide +kernel⟩)
theorem d8_compute_75 : jdb cX8_compute 75 (.if_icmp .ge 23) 23 98 78 := by decide +kernel
theorem d8_compute_78 : jda cX8_compute 78 0 79 := Or.inl ⟨0, by decide +kernel⟩
theorem d8_compute_79 : jd cX8_compute 79 (.dup) 1 80 := by decide +kernel
theorem d8_compute_80 : jd cX8_compute 80 (.getfield 46) 3 83 := by decide +kernel
theorem d8_compute_83 : jda cX8_compute 83 0 84 := Or.inl ⟨0, by decide +kernel⟩
theorem d8_compute_84 : jdi cX8_compute 84 1 85 := Or.inl ⟨1, by decide +kernel⟩
theorem d8_compute_85 : jd cX8_compute 85 (.invokevirtual 49) 3 88 := by decide +kernel
theorem d8_compute_88 : jd cX8_compute 88 (.iadd) 1 89 := by decide +kernel
theorem d8_compute_89 : jd cX8_compute 89 (.putfield 46) 3 92 := by decide +kernel
theorem d8_compute_92 : jd cX8_compute 92 (.iinc 1 1) 3 95 := by decide +kernel
theorem d8_compute_95 : jdb cX8_compute 95 (.goto (-23)) (-23) 72 98 := by decide +kernel
theorem d8_compute_98 : decode cX8_compute 98 = .ok (.return_, 1) := by decide +kernel
set_option maxHeartbeats 4000000 in
set_option maxRecDepth 100000 in
theorem wX8_compute_72 {X : jC} {tc : jTC} (C : jx X cX8_compute 2 RX8 none tc ({ frames := 4, cells := 0, slots := 0, locals := 88 } : Room)) (h_ h_rules h_rules_codes h_sets h_sets_first h_sets_follow h_select h_possible h_lowest : Nat) (g_sets_begins : Value) (c_rules_codes : (Nat → Int32)) (c_rules_count : Int32) (c_sets_nullable : Int32) (c_sets_first : (Nat → Int32)) (c_sets_follow : (Nat → Int32)) (v3 : (Nat → Int32)) (v4 : (Nat → Int32)) (v5 : (Nat → Int32)) (k7 : (Int32 → Option ((Nat → Int32) × (Nat → Int32) × (Nat → Int32) × Int32))) (hk7 : ∀ (v14 : Int32), jo X 2 (0, 0) (jQV X (fun (u : (Nat → Int32) × (Nat → Int32) × (Nat → Int32) × Int32) => [(h_, .inr (8, [.ref h_rules, .ref h_sets, .ref h_select, .ref h_possible, .ref h_lowest, .int u.2.2.2])), (h_rules, .inr (6, [.ref h_rules_codes, .int c_rules_count])), (h_rules_codes, .inl (tc.1, 24, .inl c_rules_codes)), (h_sets, .inr (7, [.int c_sets_nullable, .ref h_sets_first, .ref h_sets_follow, g_sets_begins])), (h_sets_first, .inl (tc.1, 8, .inl c_sets_first)), (h_sets_follow, .inl (tc.1, 8, .inl c_sets_follow)), (h_select, .inl (tc.1, 24, .inl u.1)), (h_possible, .inl (tc.1, 72, .inl u.2.1)), (h_lowest, .inl (tc.1, 72, .inl u.2.2.1))])) (k7 v14) [(h_, .inr (8, [.ref h_rules, .ref h_sets, .ref h_select, .ref h_possible, .ref h_lowest, .int v14])), (h_rules, .inr (6, [.ref h_rules_codes, .int c_rules_count])), (h_rules_codes, .inl (tc.1, 24, .inl c_rules_codes)), (h_sets, .inr (7, [.int c_sets_nullable, .ref h_sets_first, .ref h_sets_follow, g_sets_begins])), (h_sets_first, .inl (tc.1, 8, .inl c_sets_first)), (h_sets_follow, .inl (tc.1, 8, .inl c_sets_follow)), (h_select, .inl (tc.1, 24, .inl v3)), (h_possible, .inl (tc.1, 72, .inl v4)), (h_lowest, .inl (tc.1, 72, .inl v5))] 98 [] []) (rc10 : Int32 → Int32 → Option ((Nat → Int32) × (Nat → Int32) × (Nat → Int32) × Int32)) (hrc10 : ∀ (v8 : Int32) (v9 : Int32), jo X 2 (0, 0) (jQV X (fun (u : (Nat → Int32) × (Nat → Int32) × (Nat → Int32) × Int32) => [(h_, .inr (8, [.ref h_rules, .ref h_sets, .ref h_select, .ref h_possible, .ref h_lowest, .int u.2.2.2])), (h_rules, .inr (6, [.ref h_rules_codes, .int c_rules_count])), (h_rules_codes, .inl (tc.1, 24, .inl c_rules_codes)), (h_sets, .inr (7, [.int c_sets_nullable, .ref h_sets_first, .ref h_sets_follow, g_sets_begins])), (h_sets_first, .inl (tc.1, 8, .inl c_sets_first)), (h_sets_follow, .inl (tc.1, 8, .inl c_sets_follow)), (h_select, .inl (tc.1, 24, .inl u.1)), (h_possible, .inl (tc.1, 72, .inl u.2.1)), (h_lowest, .inl (tc.1, 72, .inl u.2.2.1))])) (rc10 v8 v9) [(h_, .inr (8, [.ref h_rules, .ref h_sets, .ref h_select, .ref h_possible, .ref h_lowest, .int v9])), (h_rules, .inr (6, [.ref h_rules_codes, .int c_rules_count])), (h_rules_codes, .inl (tc.1, 24, .inl c_rules_codes)), (h_sets, .inr (7, [.int c_sets_nullable, .ref h_sets_first, .ref h_sets_follow, g_sets_begins])), (h_sets_first, .inl (tc.1, 8, .inl c_sets_first)), (h_sets_follow, .inl (tc.1, 8, .inl c_sets_follow)), (h_select, .inl (tc.1, 24, .inl v3)), (h_possible, .inl (tc.1, 72, .inl v4)), (h_lowest, .inl (tc.1, 72, .inl v5))] 72 [(0, .ref h_), (1, .int v8)] []) (v8 : Int32) (v9 : Int32) : jo X 2 (0, 0) (jQV X (fun (u : (Nat → Int32) × (Nat → Int32) × (Nat → Int32) × Int32) => [(h_, .inr (8, [.ref h_rules, .ref h_sets, .ref h_select, .ref h_possible, .ref h_lowest, .int u.2.2.2])), (h_rules, .inr (6, [.ref h_rules_codes, .int c_rules_count])), (h_rules_codes, .inl (tc.1, 24, .inl c_rules_codes)), (h_sets, .inr (7, [.int c_sets_nullable, .ref h_sets_first, .ref h_sets_follow, g_sets_begins])), (h_sets_first, .inl (tc.1, 8, .inl c_sets_first)), (h_sets_follow, .inl (tc.1, 8, .inl c_sets_follow)), (h_select, .inl (tc.1, 24, .inl u.1)), (h_possible, .inl (tc.1, 72, .inl u.2.1)), (h_lowest, .inl (tc.1, 72, .inl u.2.2.1))])) (bX8_compute_72 v4 k7 rc10 v8 v9) [(h_, .inr (8, [.ref h_rules, .ref h_sets, .ref h_select, .ref h_possible, .ref h_lowest, .int v9])), (h_rules, .inr (6, [.ref h_rules_codes, .int c_rules_count])), (h_rules_codes, .inl (tc.1, 24, .inl c_rules_codes)), (h_sets, .inr (7, [.int c_sets_nullable, .ref h_sets_first, .ref h_sets_follow, g_sets_begins])), (h_sets_first, .inl (tc.1, 8, .inl c_sets_first)), (h_sets_follow, .inl (tc.1, 8, .inl c_sets_follow)), (h_select, .inl (tc.1, 24, .inl v3)), (h_possible, .inl (tc.1, 72, .inl v4)), (h_lowest, .inl (tc.1, 72, .inl v5))] 72 [(0, .ref h_), (1, .int v8)] [] := by
  unfold bX8_compute_72
  refine j_iload C d8_compute_72 1 rfl ?_
  refine j_const C d8_compute_73 ?_
  refine j_icmp_ge C d8_compute_75 ?_ ?_
  · exact j_sub [] rfl (hk7 _)
  · refine j_aload C d8_compute_78 0 rfl ?_
    refine j_dup C d8_compute_79 rfl ?_
    refine j_get C d8_compute_80 fl8_46 0 rfl rfl ?_
    refine j_aload C d8_compute_83 0 rfl ?_
    refine j_iload C d8_compute_84 1 rfl ?_
    refine j_callVI0 (As := [.int v8]) C d8_compute_85 mv8_49 (kX8_pairsIn _ _ tc h_ h_possible (.ref h_rules) (.ref h_sets) (.ref h_select) (.ref h_lowest) (.int v9) v4 v8) ⟨rfl, rfl, Nat.le_of_ble_eq_true rfl, Nat.le_of_ble_eq_true rfl⟩ rfl 0 rfl [0, 7] rfl rfl rfl (Nat.le_of_ble_eq_true rfl) (fun x11 => ?_)
    refine j_iadd C d8_compute_88 ?_
    refine j_leti (fun x12 => ?_)
    refine j_putq C d8_compute_89 fq8_46 0 rfl rfl rfl (Nat.le_of_ble_eq_true rfl) (ws' := [(h_, .inr (8, [.ref h_rules, .ref h_sets, .ref h_select, .ref h_possible, .ref h_lowest, .int x12])), (h_rules, .inr (6, [.ref h_rules_codes, .int c_rules_count])), (h_rules_codes, .inl (tc.1, 24, .inl c_rules_codes)), (h_sets, .inr (7, [.int c_sets_nullable, .ref h_sets_first, .ref h_sets_follow, g_sets_begins])), (h_sets_first, .inl (tc.1, 8, .inl c_sets_first)), (h_sets_follow, .inl (tc.1, 8, .inl c_sets_follow)), (h_select, .inl (tc.1, 24, .inl v3)), (h_possible, .inl (tc.1, 72, .inl v4)), (h_lowest, .inl (tc.1, 72, .inl v5))]) rfl ?_
    refine j_iincN C (fun x13 => [(1, .int x13), (0, .ref h_)]) d8_compute_92 1 rfl (by decide +kernel) (by decide) (fun _ => rfl) (fun x13 => ?_)
    refine j_goto C d8_compute_95 ?_
    exact j_sub [1, 0] rfl (hrc10 _ _)

set_option maxHeartbeats 4000000 in
set_option maxRecDepth 100000 in
theorem wX8_compute_31 {X : jC} {tc : jTC} (C : jx X cX8_compute 2 RX8 none tc ({ frames := 4, cells := 0, slots := 0, locals := 88 } : Room)) (N : Nat) (h_ h_rules h_rules_codes h_sets h_sets_first h_sets_follow h_select h_possible h_lowest : Nat) (g_sets_begins : Value) (c_rules_codes : (Nat → Int32)) (c_rules_count : Int32) (c_sets_nullable : Int32) (c_sets_first : (Nat → Int32)) (c_sets_follow : (Nat → Int32)) (c_conflicts : Int32) (k15 : ((Nat → Int32) → (Nat → Int32) → (Nat → Int32) → Option ((Nat → Int32) × (Nat → Int32) × (Nat → Int32) × Int32))) (hk15 : ∀ (v27 : (Nat → Int32)) (v28 : (Nat → Int32)) (v29 : (Nat → Int32)), jo X 2 (0, 0) (jQV X (fun (u : (Nat → Int32) × (Nat → Int32) × (Nat → Int32) × Int32) => [(h_, .inr (8, [.ref h_rules, .ref h_sets, .ref h_select, .ref h_possible, .ref h_lowest, .int u.2.2.2])), (h_rules, .inr (6, [.ref h_rules_codes, .int c_rules_count])), (h_rules_codes, .inl (tc.1, 24, .inl c_rules_codes)), (h_sets, .inr (7, [.int c_sets_nullable, .ref h_sets_first, .ref h_sets_follow, g_sets_begins])), (h_sets_first, .inl (tc.1, 8, .inl c_sets_first)), (h_sets_follow, .inl (tc.1, 8, .inl c_sets_follow)), (h_select, .inl (tc.1, 24, .inl u.1)), (h_possible, .inl (tc.1, 72, .inl u.2.1)), (h_lowest, .inl (tc.1, 72, .inl u.2.2.1))])) (k15 v27 v28 v29) [(h_, .inr (8, [.ref h_rules, .ref h_sets, .ref h_select, .ref h_possible, .ref h_lowest, .int c_conflicts])), (h_rules, .inr (6, [.ref h_rules_codes, .int c_rules_count])), (h_rules_codes, .inl (tc.1, 24, .inl c_rules_codes)), (h_sets, .inr (7, [.int c_sets_nullable, .ref h_sets_first, .ref h_sets_follow, g_sets_begins])), (h_sets_first, .inl (tc.1, 8, .inl c_sets_first)), (h_sets_follow, .inl (tc.1, 8, .inl c_sets_follow)), (h_select, .inl (tc.1, 24, .inl v27)), (h_possible, .inl (tc.1, 72, .inl v28)), (h_lowest, .inl (tc.1, 72, .inl v29))] 65 [(0, .ref h_)] []) (rc20 : Int32 → (Nat → Int32) → (Nat → Int32) → (Nat → Int32) → Option ((Nat → Int32) × (Nat → Int32) × (Nat → Int32) × Int32)) (hrc20 : ∀ (v16 : Int32) (v17 : (Nat → Int32)) (v18 : (Nat → Int32)) (v19 : (Nat → Int32)), jo X 2 (0, 0) (jQV X (fun (u : (Nat → Int32) × (Nat → Int32) × (Nat → Int32) × Int32) => [(h_, .inr (8, [.ref h_rules, .ref h_sets, .ref h_select, .ref h_possible, .ref h_lowest, .int u.2.2.2])), (h_rules, .inr (6, [.ref h_rules_codes, .int c_rules_count])), (h_rules_codes, .inl (tc.1, 24, .inl c_rules_codes)), (h_sets, .inr (7, [.int c_sets_nullable, .ref h_sets_first, .ref h_sets_follow, g_sets_begins])), (h_sets_first, .inl (tc.1, 8, .inl c_sets_first)), (h_sets_follow, .inl (tc.1, 8, .inl c_sets_follow)), (h_select, .inl (tc.1, 24, .inl u.1)), (h_possible, .inl (tc.1, 72, .inl u.2.1)), (h_lowest, .inl (tc.1, 72, .inl u.2.2.1))])) (rc20 v16 v17 v18 v19) [(h_, .inr (8, [.ref h_rules, .ref h_sets, .ref h_select, .ref h_possible, .ref h_lowest, .int c_conflicts])), (h_rules, .inr (6, [.ref h_rules_codes, .int c_rules_count])), (h_rules_codes, .inl (tc.1, 24, .inl c_rules_codes)), (h_sets, .inr (7, [.int c_sets_nullable, .ref h_sets_first, .ref h_sets_follow, g_sets_begins])), (h_sets_first, .inl (tc.1, 8, .inl c_sets_first)), (h_sets_follow, .inl (tc.1, 8, .inl c_sets_follow)), (h_select, .inl (tc.1, 24, .inl v17)), (h_possible, .inl (tc.1, 72, .inl v18)), (h_lowest, .inl (tc.1, 72, .inl v19))] 31 [(0, .ref h_), (1, .int v16)] []) (v16 : Int32) (v17 : (Nat → Int32)) (v18 : (Nat → Int32)) (v19 : (Nat → Int32)) : jo X 2 (0, 0) (jQV X (fun (u : (Nat → Int32) × (Nat → Int32) × (Nat → Int32) × Int32) => [(h_, .inr (8, [.ref h_rules, .ref h_sets, .ref h_select, .ref h_possible, .ref h_lowest, .int u.2.2.2])), (h_rules, .inr (6, [.ref h_rules_codes, .int c_rules_count])), (h_rules_codes, .inl (tc.1, 24, .inl c_rules_codes)), (h_sets, .inr (7, [.int c_sets_nullable, .ref h_sets_first, .ref h_sets_follow, g_sets_begins])), (h_sets_first, .inl (tc.1, 8, .inl c_sets_first)), (h_sets_follow, .inl (tc.1, 8, .inl c_sets_follow)), (h_select, .inl (tc.1, 24, .inl u.1)), (h_possible, .inl (tc.1, 72, .inl u.2.1)), (h_lowest, .inl (tc.1, 72, .inl u.2.2.1))])) (bX8_compute_31 N c_rules_codes c_sets_nullable c_sets_first c_sets_follow k15 rc20 v16 v17 v18 v19) [(h_, .inr (8, [.ref h_rules, .ref h_sets, .ref h_select, .ref h_possible, .ref h_lowest, .int c_conflicts])), (h_rules, .inr (6, [.ref h_rules_codes, .int c_rules_count])), (h_rules_codes, .inl (tc.1, 24, .inl c_rules_codes)), (h_sets, .inr (7, [.int c_sets_nullable, .ref h_sets_first, .ref h_sets_follow, g_sets_begins])), (h_sets_first, .inl (tc.1, 8, .inl c_sets_first)), (h_sets_follow, .inl (tc.1, 8, .inl c_sets_follow)), (h_select, .inl (tc.1, 24, .inl v17)), (h_possible, .inl (tc.1, 72, .inl v18)), (h_lowest, .inl (tc.1, 72, .inl v19))] 31 [(0, .ref h_), (1, .int v16)] [] := by
  unfold bX8_compute_31
  refine j_iload C d8_compute_31 1 rfl ?_
  refine j_if_lt C d8_compute_32 ?_ ?_
  · exact j_sub [0] rfl (hk15 _ _ _)
  · refine j_aload C d8_compute_35 0 rfl ?_
    refine j_get C d8_compute_36 fl8_9 0 rfl rfl ?_
    refine j_iload C d8_compute_39 1 rfl ?_
    refine j_aload C d8_compute_40 0 rfl ?_
    refine j_aload C d8_compute_41 0 rfl ?_
    refine j_get C d8_compute_42 fl8_21 0 rfl rfl ?_
    refine j_get C d8_compute_45 fl8_35 1 rfl rfl ?_
    refine j_iload C d8_compute_48 1 rfl ?_
    refine j_iald C d8_compute_49 2 rfl (fun x21 => ?_)
    refine j_callVI0 (As := [.int x21]) C d8_compute_50 mv8_38 (kX8_selectOf _ _ tc N h_ h_sets h_sets_first h_sets_follow (.ref h_rules) (.ref h_select) (.ref h_possible) (.ref h_lowest) (.int c_conflicts) g_sets_begins c_sets_nullable c_sets_first c_sets_follow x21) ⟨rfl, rfl, Nat.le_of_ble_eq_true rfl, Nat.le_of_ble_eq_true rfl⟩ rfl 0 rfl [0, 3, 4, 5] rfl rfl rfl (Nat.le_of_ble_eq_true rfl) (fun x22 => ?_)
    refine j_iast C (fun f23 => [(h_, .inr (8, [.ref h_rules, .ref h_sets, .ref h_select, .ref h_possible, .ref h_lowest, .int c_conflicts])), (h_rules, .inr (6, [.ref h_rules_codes, .int c_rules_count])), (h_rules_codes, .inl (tc.1, 24, .inl c_rules_codes)), (h_sets, .inr (7, [.int c_sets_nullable, .ref h_sets_first, .ref h_sets_follow, g_sets_begins])), (h_sets_first, .inl (tc.1, 8, .inl c_sets_first)), (h_sets_follow, .inl (tc.1, 8, .inl c_sets_follow)), (h_select, .inl (tc.1, 24, .inl f23)), (h_possible, .inl (tc.1, 72, .inl v18)), (h_lowest, .inl (tc.1, 72, .inl v19))]) d8_compute_53 6 rfl (fun _ => rfl) (fun f23 => ?_)
    refine j_aload C d8_compute_54 0 rfl ?_
    refine j_iload C d8_compute_55 1 rfl ?_
    refine j_callVV2 (As := [.int v16]) C d8_compute_56 mv8_42 (kX8_enter _ _ tc N h_ h_rules h_rules_codes h_select h_possible h_lowest (.ref h_sets) (.int c_conflicts) (.int c_rules_count) c_rules_codes f23 v18 v19 v16) ⟨rfl, rfl, Nat.le_of_ble_eq_true rfl, Nat.le_of_ble_eq_true rfl⟩ rfl 0 rfl [0, 1, 2, 6, 7, 8] rfl rfl rfl (Nat.le_of_ble_eq_true rfl) (fun o24 o25 => [(h_, .inr (8, [.ref h_rules, .ref h_sets, .ref h_select, .ref h_possible, .ref h_lowest, .int c_conflicts])), (h_rules, .inr (6, [.ref h_rules_codes, .int c_rules_count])), (h_rules_codes, .inl (tc.1, 24, .inl c_rules_codes)), (h_sets, .inr (7, [.int c_sets_nullable, .ref h_sets_first, .ref h_sets_follow, g_sets_begins])), (h_sets_first, .inl (tc.1, 8, .inl c_sets_first)), (h_sets_follow, .inl (tc.1, 8, .inl c_sets_follow)), (h_select, .inl (tc.1, 24, .inl f23)), (h_possible, .inl (tc.1, 72, .inl o24)), (h_lowest, .inl (tc.1, 72, .inl o25))]) [(true, 0), (true, 1), (true, 2), (false, 3), (false, 4), (false, 5), (true, 3), (true, 4), (true, 5)] (fun _ => rfl) (by decide +kernel) (fun o24 o25 => ?_)
    refine j_iincN C (fun x26 => [(1, .int x26), (0, .ref h_)]) d8_compute_59 1 rfl (by decide +kernel) (by decide) (fun _ => rfl) (fun x26 => ?_)
    refine j_goto C d8_compute_62 ?_
    exact j_sub [1, 0] rfl (hrc20 _ _ _ _)

set_option maxHeartbeats 4000000 in
set_option maxRecDepth 100000 in
theorem wX8_compute_2 {X : jC} {tc : jTC} (C : jx X cX8_compute 2 RX8 none tc ({ frames := 4, cells := 0, slots := 0, locals := 88 } : Room)) (h_ h_rules h_rules_codes h_sets h_sets_first h_sets_follow h_select h_possible h_lowest : Nat) (g_sets_begins : Value) (c_rules_codes : (Nat → Int32)) (c_rules_count : Int32) (c_sets_nullable : Int32) (c_sets_first : (Nat → Int32)) (c_sets_follow : (Nat → Int32)) (c_select : (Nat → Int32)) (c_lowest : (Nat → Int32)) (c_conflicts : Int32) (k30 : ((Nat → Int32) → Option ((Nat → Int32) × (Nat → Int32) × (Nat → Int32) × Int32))) (hk30 : ∀ (v36 : (Nat → Int32)), jo X 2 (0, 0) (jQV X (fun (u : (Nat → Int32) × (Nat → Int32) × (Nat → Int32) × Int32) => [(h_, .inr (8, [.ref h_rules, .ref h_sets, .ref h_select, .ref h_possible, .ref h_lowest, .int u.2.2.2])), (h_rules, .inr (6, [.ref h_rules_codes, .int c_rules_count])), (h_rules_codes, .inl (tc.1, 24, .inl c_rules_codes)), (h_sets, .inr (7, [.int c_sets_nullable, .ref h_sets_first, .ref h_sets_follow, g_sets_begins])), (h_sets_first, .inl (tc.1, 8, .inl c_sets_first)), (h_sets_follow, .inl (tc.1, 8, .inl c_sets_follow)), (h_select, .inl (tc.1, 24, .inl u.1)), (h_possible, .inl (tc.1, 72, .inl u.2.1)), (h_lowest, .inl (tc.1, 72, .inl u.2.2.1))])) (k30 v36) [(h_, .inr (8, [.ref h_rules, .ref h_sets, .ref h_select, .ref h_possible, .ref h_lowest, .int c_conflicts])), (h_rules, .inr (6, [.ref h_rules_codes, .int c_rules_count])), (h_rules_codes, .inl (tc.1, 24, .inl c_rules_codes)), (h_sets, .inr (7, [.int c_sets_nullable, .ref h_sets_first, .ref h_sets_follow, g_sets_begins])), (h_sets_first, .inl (tc.1, 8, .inl c_sets_first)), (h_sets_follow, .inl (tc.1, 8, .inl c_sets_follow)), (h_select, .inl (tc.1, 24, .inl c_select)), (h_possible, .inl (tc.1, 72, .inl v36)), (h_lowest, .inl (tc.1, 72, .inl c_lowest))] 21 [(0, .ref h_)] []) (rc33 : Int32 → (Nat → Int32) → Option ((Nat → Int32) × (Nat → Int32) × (Nat → Int32) × Int32)) (hrc33 : ∀ (v31 : Int32) (v32 : (Nat → Int32)), jo X 2 (0, 0) (jQV X (fun (u : (Nat → Int32) × (Nat → Int32) × (Nat → Int32) × Int32) => [(h_, .inr (8, [.ref h_rules, .ref h_sets, .ref h_select, .ref h_possible, .ref h_lowest, .int u.2.2.2])), (h_rules, .inr (6, [.ref h_rules_codes, .int c_rules_count])), (h_rules_codes, .inl (tc.1, 24, .inl c_rules_codes)), (h_sets, .inr (7, [.int c_sets_nullable, .ref h_sets_first, .ref h_sets_follow, g_sets_begins])), (h_sets_first, .inl (tc.1, 8, .inl c_sets_first)), (h_sets_follow, .inl (tc.1, 8, .inl c_sets_follow)), (h_select, .inl (tc.1, 24, .inl u.1)), (h_possible, .inl (tc.1, 72, .inl u.2.1)), (h_lowest, .inl (tc.1, 72, .inl u.2.2.1))])) (rc33 v31 v32) [(h_, .inr (8, [.ref h_rules, .ref h_sets, .ref h_select, .ref h_possible, .ref h_lowest, .int c_conflicts])), (h_rules, .inr (6, [.ref h_rules_codes, .int c_rules_count])), (h_rules_codes, .inl (tc.1, 24, .inl c_rules_codes)), (h_sets, .inr (7, [.int c_sets_nullable, .ref h_sets_first, .ref h_sets_follow, g_sets_begins])), (h_sets_first, .inl (tc.1, 8, .inl c_sets_first)), (h_sets_follow, .inl (tc.1, 8, .inl c_sets_follow)), (h_select, .inl (tc.1, 24, .inl c_select)), (h_possible, .inl (tc.1, 72, .inl v32)), (h_lowest, .inl (tc.1, 72, .inl c_lowest))] 2 [(0, .ref h_), (1, .int v31)] []) (v31 : Int32) (v32 : (Nat → Int32)) : jo X 2 (0, 0) (jQV X (fun (u : (Nat → Int32) × (Nat → Int32) × (Nat → Int32) × Int32) => [(h_, .inr (8, [.ref h_rules, .ref h_sets, .ref h_select, .ref h_possible, .ref h_lowest, .int u.2.2.2])), (h_rules, .inr (6, [.ref h_rules_codes, .int c_rules_count])), (h_rules_codes, .inl (tc.1, 24, .inl c_rules_codes)), (h_sets, .inr (7, [.int c_sets_nullable, .ref h_sets_first, .ref h_sets_follow, g_sets_begins])), (h_sets_first, .inl (tc.1, 8, .inl c_sets_first)), (h_sets_follow, .inl (tc.1, 8, .inl c_sets_follow)), (h_select, .inl (tc.1, 24, .inl u.1)), (h_possible, .inl (tc.1, 72, .inl u.2.1)), (h_lowest, .inl (tc.1, 72, .inl u.2.2.1))])) (bX8_compute_2 k30 rc33 v31 v32) [(h_, .inr (8, [.ref h_rules, .ref h_sets, .ref h_select, .ref h_possible, .ref h_lowest, .int c_conflicts])), (h_rules, .inr (6, [.ref h_rules_codes, .int c_rules_count])), (h_rules_codes, .inl (tc.1, 24, .inl c_rules_codes)), (h_sets, .inr (7, [.int c_sets_nullable, .ref h_sets_first, .ref h_sets_follow, g_sets_begins])), (h_sets_first, .inl (tc.1, 8, .inl c_sets_first)), (h_sets_follow, .inl (tc.1, 8, .inl c_sets_follow)), (h_select, .inl (tc.1, 24, .inl c_select)), (h_possible, .inl (tc.1, 72, .inl v32)), (h_lowest, .inl (tc.1, 72, .inl c_lowest))] 2 [(0, .ref h_), (1, .int v31)] [] := by
  unfold bX8_compute_2
  refine j_iload C d8_compute_2 1 rfl ?_
  refine j_const C d8_compute_3 ?_
  refine j_icmp_ge C d8_compute_5 ?_ ?_
  · exact j_sub [0] rfl (hk30 _)
  · refine j_aload C d8_compute_8 0 rfl ?_
    refine j_get C d8_compute_9 fl8_15 0 rfl rfl ?_
    refine j_iload C d8_compute_12 1 rfl ?_
    refine j_const C d8_compute_13 ?_
    refine j_iast C (fun f34 => [(h_, .inr (8, [.ref h_rules, .ref h_sets, .ref h_select, .ref h_possible, .ref h_lowest, .int c_conflicts])), (h_rules, .inr (6, [.ref h_rules_codes, .int c_rules_count])), (h_rules_codes, .inl (tc.1, 24, .inl c_rules_codes)), (h_sets, .inr (7, [.int c_sets_nullable, .ref h_sets_first, .ref h_sets_follow, g_sets_begins])), (h_sets_first, .inl (tc.1, 8, .inl c_sets_first)), (h_sets_follow, .inl (tc.1, 8, .inl c_sets_follow)), (h_select, .inl (tc.1, 24, .inl c_select)), (h_possible, .inl (tc.1, 72, .inl f34)), (h_lowest, .inl (tc.1, 72, .inl c_lowest))]) d8_compute_14 7 rfl (fun _ => rfl) (fun f34 => ?_)
    refine j_iincN C (fun x35 => [(1, .int x35), (0, .ref h_)]) d8_compute_15 1 rfl (by decide +kernel) (by decide) (fun _ => rfl) (fun x35 => ?_)
    refine j_goto C d8_compute_18 ?_
    exact j_sub [1, 0] rfl (hrc33 _ _)

set_option maxHeartbeats 4000000 in
set_option maxRecDepth 100000 in
theorem kX8_compute (l : Launch) (D : va_G) (tc : jTC) (N : Nat) (h_ h_rules h_rules_codes h_sets h_sets_first h_sets_follow h_select h_possible h_lowest : Nat) (g_sets_begins : Value) (c_rules_codes : (Nat → Int32)) (c_rules_count : Int32) (c_sets_nullable : Int32) (c_sets_first : (Nat → Int32)) (c_sets_follow : (Nat → Int32)) (c_select : (Nat → Int32)) (c_possible : (Nat → Int32)) (c_lowest : (Nat → Int32)) (c_conflicts : Int32) : ctV l D tc yX8_compute (Cond.code yX8_compute cX8_compute 2 none :: jtb) ({ frames := 4, cells := 0, slots := 0, locals := 88 } : Room) [.ref h_] [(h_, .inr (8, [.ref h_rules, .ref h_sets, .ref h_select, .ref h_possible, .ref h_lowest, .int c_conflicts])), (h_rules, .inr (6, [.ref h_rules_codes, .int c_rules_count])), (h_rules_codes, .inl (tc.1, 24, .inl c_rules_codes)), (h_sets, .inr (7, [.int c_sets_nullable, .ref h_sets_first, .ref h_sets_follow, g_sets_begins])), (h_sets_first, .inl (tc.1, 8, .inl c_sets_first)), (h_sets_follow, .inl (tc.1, 8, .inl c_sets_follow)), (h_select, .inl (tc.1, 24, .inl c_select)), (h_possible, .inl (tc.1, 72, .inl c_possible)), (h_lowest, .inl (tc.1, 72, .inl c_lowest))] (fX8_compute N c_rules_codes c_rules_count c_sets_nullable c_sets_first c_sets_follow c_select c_possible c_lowest c_conflicts) (fun (u : (Nat → Int32) × (Nat → Int32) × (Nat → Int32) × Int32) => [(h_, .inr (8, [.ref h_rules, .ref h_sets, .ref h_select, .ref h_possible, .ref h_lowest, .int u.2.2.2])), (h_rules, .inr (6, [.ref h_rules_codes, .int c_rules_count])), (h_rules_codes, .inl (tc.1, 24, .inl c_rules_codes)), (h_sets, .inr (7, [.int c_sets_nullable, .ref h_sets_first, .ref h_sets_follow, g_sets_begins])), (h_sets_first, .inl (tc.1, 8, .inl c_sets_first)), (h_sets_follow, .inl (tc.1, 8, .inl c_sets_follow)), (h_select, .inl (tc.1, 24, .inl u.1)), (h_possible, .inl (tc.1, 72, .inl u.2.1)), (h_lowest, .inl (tc.1, 72, .inl u.2.2.1))]) := by
  refine ctV_of (lv0 := [(0, .ref h_)]) (by decide +kernel) (Nat.le_of_ble_eq_true rfl) rfl (fun X C => ?_)
  unfold fX8_compute
  refine j_const C d8_compute_0 ?_
  refine j_istore C d8_compute_1 (by decide) (lv' := [(1, .int 0), (0, .ref h_)]) rfl ?_
  refine j_join 21 (fun v1 => [(h_, .inr (8, [.ref h_rules, .ref h_sets, .ref h_select, .ref h_possible, .ref h_lowest, .int c_conflicts])), (h_rules, .inr (6, [.ref h_rules_codes, .int c_rules_count])), (h_rules_codes, .inl (tc.1, 24, .inl c_rules_codes)), (h_sets, .inr (7, [.int c_sets_nullable, .ref h_sets_first, .ref h_sets_follow, g_sets_begins])), (h_sets_first, .inl (tc.1, 8, .inl c_sets_first)), (h_sets_follow, .inl (tc.1, 8, .inl c_sets_follow)), (h_select, .inl (tc.1, 24, .inl c_select)), (h_possible, .inl (tc.1, 72, .inl v1)), (h_lowest, .inl (tc.1, 72, .inl c_lowest))]) (fun v1 => [(0, .ref h_)]) (fun v1 => []) (fun v1 => ?_) (fun k30 hk30 => ?_)
  · refine j_aload C d8_compute_21 0 rfl ?_
    refine j_get C d8_compute_22 fl8_21 0 rfl rfl ?_
    refine j_get C d8_compute_25 fl8_29 1 rfl rfl ?_
    refine j_const C d8_compute_28 ?_
    refine j_isub C d8_compute_29 ?_
    refine j_leti (fun x2 => ?_)
    refine j_istore C d8_compute_30 (by decide) (lv' := [(1, .int x2), (0, .ref h_)]) rfl ?_
    refine j_join3 65 (fun v3 v4 v5 => [(h_, .inr (8, [.ref h_rules, .ref h_sets, .ref h_select, .ref h_possible, .ref h_lowest, .int c_conflicts])), (h_rules, .inr (6, [.ref h_rules_codes, .int c_rules_count])), (h_rules_codes, .inl (tc.1, 24, .inl c_rules_codes)), (h_sets, .inr (7, [.int c_sets_nullable, .ref h_sets_first, .ref h_sets_follow, g_sets_begins])), (h_sets_first, .inl (tc.1, 8, .inl c_sets_first)), (h_sets_follow, .inl (tc.1, 8, .inl c_sets_follow)), (h_select, .inl (tc.1, 24, .inl v3)), (h_possible, .inl (tc.1, 72, .inl v4)), (h_lowest, .inl (tc.1, 72, .inl v5))]) (fun v3 v4 v5 => [(0, .ref h_)]) (fun v3 v4 v5 => []) (fun v3 v4 v5 => ?_) (fun k15 hk15 => ?_)
    · refine j_aload C d8_compute_65 0 rfl ?_
      refine j_const C d8_compute_66 ?_
      refine j_putq C d8_compute_67 fq8_46 0 rfl rfl rfl (Nat.le_of_ble_eq_true rfl) (ws' := [(h_, .inr (8, [.ref h_rules, .ref h_sets, .ref h_select, .ref h_possible, .ref h_lowest, .int 0])), (h_rules, .inr (6, [.ref h_rules_codes, .int c_rules_count])), (h_rules_codes, .inl (tc.1, 24, .inl c_rules_codes)), (h_sets, .inr (7, [.int c_sets_nullable, .ref h_sets_first, .ref h_sets_follow, g_sets_begins])), (h_sets_first, .inl (tc.1, 8, .inl c_sets_first)), (h_sets_follow, .inl (tc.1, 8, .inl c_sets_follow)), (h_select, .inl (tc.1, 24, .inl v3)), (h_possible, .inl (tc.1, 72, .inl v4)), (h_lowest, .inl (tc.1, 72, .inl v5))]) rfl ?_
      refine j_const C d8_compute_70 ?_
      refine j_istore C d8_compute_71 (by decide) (lv' := [(1, .int 0), (0, .ref h_)]) rfl ?_
      refine j_join 98 (fun v6 => [(h_, .inr (8, [.ref h_rules, .ref h_sets, .ref h_select, .ref h_possible, .ref h_lowest, .int v6])), (h_rules, .inr (6, [.ref h_rules_codes, .int c_rules_count])), (h_rules_codes, .inl (tc.1, 24, .inl c_rules_codes)), (h_sets, .inr (7, [.int c_sets_nullable, .ref h_sets_first, .ref h_sets_follow, g_sets_begins])), (h_sets_first, .inl (tc.1, 8, .inl c_sets_first)), (h_sets_follow, .inl (tc.1, 8, .inl c_sets_follow)), (h_select, .inl (tc.1, 24, .inl v3)), (h_possible, .inl (tc.1, 72, .inl v4)), (h_lowest, .inl (tc.1, 72, .inl v5))]) (fun v6 => []) (fun v6 => []) (fun v6 => ?_) (fun k7 hk7 => ?_)
      · exact j_vret C d8_compute_98 rfl
      · exact j_sub [1, 0] rfl (j_loop2 (fun v8 v9 => [(h_, .inr (8, [.ref h_rules, .ref h_sets, .ref h_select, .ref h_possible, .ref h_lowest, .int v9])), (h_rules, .inr (6, [.ref h_rules_codes, .int c_rules_count])), (h_rules_codes, .inl (tc.1, 24, .inl c_rules_codes)), (h_sets, .inr (7, [.int c_sets_nullable, .ref h_sets_first, .ref h_sets_follow, g_sets_begins])), (h_sets_first, .inl (tc.1, 8, .inl c_sets_first)), (h_sets_follow, .inl (tc.1, 8, .inl c_sets_follow)), (h_select, .inl (tc.1, 24, .inl v3)), (h_possible, .inl (tc.1, 72, .inl v4)), (h_lowest, .inl (tc.1, 72, .inl v5))]) (fun v8 v9 => [(0, .ref h_), (1, .int v8)]) (fun rc10 hrc10 v8 v9 => wX8_compute_72 C h_ h_rules h_rules_codes h_sets h_sets_first h_sets_follow h_select h_possible h_lowest g_sets_begins c_rules_codes c_rules_count c_sets_nullable c_sets_first c_sets_follow v3 v4 v5 k7 hk7 rc10 hrc10 v8 v9) N _ _)
    · exact j_sub [1, 0] rfl (j_loop4 (fun v16 v17 v18 v19 => [(h_, .inr (8, [.ref h_rules, .ref h_sets, .ref h_select, .ref h_possible, .ref h_lowest, .int c_conflicts])), (h_rules, .inr (6, [.ref h_rules_codes, .int c_rules_count])), (h_rules_codes, .inl (tc.1, 24, .inl c_rules_codes)), (h_sets, .inr (7, [.int c_sets_nullable, .ref h_sets_first, .ref h_sets_follow, g_sets_begins])), (h_sets_first, .inl (tc.1, 8, .inl c_sets_first)), (h_sets_follow, .inl (tc.1, 8, .inl c_sets_follow)), (h_select, .inl (tc.1, 24, .inl v17)), (h_possible, .inl (tc.1, 72, .inl v18)), (h_lowest, .inl (tc.1, 72, .inl v19))]) (fun v16 v17 v18 v19 => [(0, .ref h_), (1, .int v16)]) (fun rc20 hrc20 v16 v17 v18 v19 => wX8_compute_31 C N h_ h_rules h_rules_codes h_sets h_sets_first h_sets_follow h_select h_possible h_lowest g_sets_begins c_rules_codes c_rules_count c_sets_nullable c_sets_first c_sets_follow c_conflicts k15 hk15 rc20 hrc20 v16 v17 v18 v19) N _ _ _ _)
  · exact j_sub [1, 0] rfl (j_loop2 (fun v31 v32 => [(h_, .inr (8, [.ref h_rules, .ref h_sets, .ref h_select, .ref h_possible, .ref h_lowest, .int c_conflicts])), (h_rules, .inr (6, [.ref h_rules_codes, .int c_rules_count])), (h_rules_codes, .inl (tc.1, 24, .inl c_rules_codes)), (h_sets, .inr (7, [.int c_sets_nullable, .ref h_sets_first, .ref h_sets_follow, g_sets_begins])), (h_sets_first, .inl (tc.1, 8, .inl c_sets_first)), (h_sets_follow, .inl (tc.1, 8, .inl c_sets_follow)), (h_select, .inl (tc.1, 24, .inl c_select)), (h_possible, .inl (tc.1, 72, .inl v32)), (h_lowest, .inl (tc.1, 72, .inl c_lowest))]) (fun v31 v32 => [(0, .ref h_), (1, .int v31)]) (fun rc33 hrc33 v31 v32 => wX8_compute_2 C h_ h_rules h_rules_codes h_sets h_sets_first h_sets_follow h_select h_possible h_lowest g_sets_begins c_rules_codes c_rules_count c_sets_nullable c_sets_first c_sets_follow c_select c_lowest c_conflicts k30 hk30 rc33 hrc33 v31 v32) N _ _)

theorem d8_partOf_0 : jdi cX8_partOf 0 0 1 := Or.inl ⟨0, by decide +kernel⟩
theorem d8_partOf_1 : jdk cX8_partOf 1 5 2 := Or.inl ⟨5, by decide +kernel⟩
theorem d8_partOf_2 : jdk cX8_partOf 2 3 3 := Or.inl ⟨3, by decide +kernel⟩
theorem d8_partOf_3 : jdi cX8_partOf 3 1 4 := Or.inl ⟨1, by decide +kernel⟩
theorem d8_partOf_4 : jd cX8_partOf 4 (.isub) 1 5 := by decide +kernel
theorem d8_partOf_5 : jd cX8_partOf 5 (.imul) 1 6 := by decide +kernel
theorem d8_partOf_6 : jd cX8_partOf 6 (.ishr) 1 7 := by decide +kernel
theorem d8_partOf_7 : jdk cX8_partOf 7 31 9 := Or.inr (Or.inl ⟨31, by decide +kernel⟩)
theorem d8_partOf_9 : jd cX8_partOf 9 (.iand) 1 10 := by decide +kernel
theorem d8_partOf_10 : decode cX8_partOf 10 = .ok (.ireturn, 1) := by decide +kernel
set_option maxHeartbeats 4000000 in
set_option maxRecDepth 100000 in
theorem kX8_partOf (l : Launch) (D : va_G) (tc : jTC) (p0 : Int32) (p1 : Int32) : ctI0 l D tc yX8_partOf (Cond.code yX8_partOf cX8_partOf 2 (some .int) :: jtb) ({ frames := 0, cells := 0, slots := 0, locals := 0 } : Room) [.int p0, .int p1] [] (fX8_partOf p0 p1) := by
  refine ctI0_of (lv0 := [(0, .int p0), (1, .int p1)]) (by decide +kernel) (Nat.le_of_ble_eq_true rfl) rfl (fun X C => ?_)
  unfold fX8_partOf
  refine j_iload C d8_partOf_0 0 rfl ?_
  refine j_const C d8_partOf_1 ?_
  refine j_const C d8_partOf_2 ?_
  refine j_iload C d8_partOf_3 1 rfl ?_
  refine j_isub C d8_partOf_4 ?_
  refine j_imul C d8_partOf_5 ?_
  refine j_ishr C d8_partOf_6 ?_
  refine j_const C d8_partOf_7 ?_
  refine j_iand C d8_partOf_9 ?_
  exact j_iret0 C d8_partOf_10

theorem d8_conflictOf_0 : jdi cX8_conflictOf 0 0 1 := Or.inl ⟨0, by decide +kernel⟩
theorem d8_conflictOf_1 : jdk cX8_conflictOf 1 9 3 := Or.inr (Or.inl ⟨9, by decide +kernel⟩)
theorem d8_conflictOf_3 : jd cX8_conflictOf 3 (.idiv) 1 4 := by decide +kernel
theorem d8_conflictOf_4 : jdk cX8_conflictOf 4 5 5 := Or.inl ⟨5, by decide +kernel⟩
theorem d8_conflictOf_5 : jd cX8_conflictOf 5 (.ishl) 1 6 := by decide +kernel
theorem d8_conflictOf_6 : jdi cX8_conflictOf 6 0 7 := Or.inl ⟨0, by decide +kernel⟩
theorem d8_conflictOf_7 : jdk cX8_conflictOf 7 9 9 := Or.inr (Or.inl ⟨9, by decide +kernel⟩)
theorem d8_conflictOf_9 : jd cX8_conflictOf 9 (.irem) 1 10 := by decide +kernel
theorem d8_conflictOf_10 : jd cX8_conflictOf 10 (.ior) 1 11 := by decide +kernel
theorem d8_conflictOf_11 : jds cX8_conflictOf 11 3 12 := Or.inl ⟨3, by decide +kernel⟩
theorem d8_conflictOf_12 : jdi cX8_conflictOf 12 3 13 := Or.inl ⟨3, by decide +kernel⟩
theorem d8_conflictOf_13 : jdk cX8_conflictOf 13 5 14 := Or.inl ⟨5, by decide +kernel⟩
theorem d8_conflictOf_14 : jd cX8_conflictOf 14 (.ishl) 1 15 := by decide +kernel
theorem d8_conflictOf_15 : jdi cX8_conflictOf 15 1 16 := Or.inl ⟨1, by decide +kernel⟩
theorem d8_conflictOf_16 : jd cX8_conflictOf 16 (.ior) 1 17 := by decide +kernel
theorem d8_conflictOf_17 : jdk cX8_conflictOf 17 5 18 := Or.inl ⟨5, by decide +kernel⟩
theorem d8_conflictOf_18 : jd cX8_conflictOf 18 (.ishl) 1 19 := by decide +kernel
theorem d8_conflictOf_19 : jdi cX8_conflictOf 19 2 20 := Or.inl ⟨2, by decide +kernel⟩
theorem d8_conflictOf_20 : jd cX8_conflictOf 20 (.ior) 1 21 := by decide +kernel
theorem d8_conflictOf_21 : decode cX8_conflictOf 21 = .ok (.ireturn, 1) := by decide +kernel
set_option maxHeartbeats 4000000 in
set_option maxRecDepth 100000 in
theorem kX8_conflictOf (l : Launch) (D : va_G) (tc : jTC) (p0 : Int32) (p1 : Int32) (p2 : Int32) : ctI0 l D tc yX8_conflictOf (Cond.code yX8_conflictOf cX8_conflictOf 4 (some .int) :: jtb) ({ frames := 0, cells := 0, slots := 0, locals := 0 } : Room) [.int p0, .int p1, .int p2] [] (fX8_conflictOf p0 p1 p2) := by
  refine ctI0_of (lv0 := [(0, .int p0), (1, .int p1), (2, .int p2)]) (by decide +kernel) (Nat.le_of_ble_eq_true rfl) rfl (fun X C => ?_)
  unfold fX8_conflictOf
  refine j_iload C d8_conflictOf_0 0 rfl ?_
  refine j_const C d8_conflictOf_1 ?_
  refine j_idiv C d8_conflictOf_3 (by decide) ?_
  refine j_const C d8_conflictOf_4 ?_
  refine j_ishl C d8_conflictOf_5 ?_
  refine j_iload C d8_conflictOf_6 0 rfl ?_
  refine j_const C d8_conflictOf_7 ?_
  refine j_irem C d8_conflictOf_9 (by decide) ?_
  refine j_ior C d8_conflictOf_10 ?_
  refine j_leti (fun x1 => ?_)
  refine j_istore C d8_conflictOf_11 (by decide) (lv' := [(3, .int x1), (0, .int p0), (1, .int p1), (2, .int p2)]) rfl ?_
  refine j_iload C d8_conflictOf_12 0 rfl ?_
  refine j_const C d8_conflictOf_13 ?_
  refine j_ishl C d8_conflictOf_14 ?_
  refine j_iload C d8_conflictOf_15 2 rfl ?_
  refine j_ior C d8_conflictOf_16 ?_
  refine j_const C d8_conflictOf_17 ?_
  refine j_ishl C d8_conflictOf_18 ?_
  refine j_iload C d8_conflictOf_19 3 rfl ?_
  refine j_ior C d8_conflictOf_20 ?_
  exact j_iret0 C d8_conflictOf_21

theorem d8_isPossible_0 : jda cX8_isPossible 0 0 1 := Or.inl ⟨0, by decide +kernel⟩
theorem d8_isPossible_1 : jd cX8_isPossible 1 (.getfield 21) 3 4 := by decide +kernel
theorem d8_isPossible_4 : jd cX8_isPossible 4 (.getfield 35) 3 7 := by decide +kernel
theorem d8_isPossible_7 : jdi cX8_isPossible 7 1 8 := Or.inl ⟨1, by decide +kernel⟩
theorem d8_isPossible_8 : jd cX8_isPossible 8 (.iaload) 1 9 := by decide +kernel
theorem d8_isPossible_9 : jdi cX8_isPossible 9 2 10 := Or.inl ⟨2, by decide +kernel⟩
theorem d8_isPossible_10 : jdk cX8_isPossible 10 9 12 := Or.inr (Or.inl ⟨9, by decide +kernel⟩)
theorem d8_isPossible_12 : jd cX8_isPossible 12 (.idiv) 1 13 := by decide +kernel
theorem d8_isPossible_13 : jd cX8_isPossible 13 (.invokestatic 81) 3 16 := by decide +kernel
theorem d8_isPossible_16 : jdb cX8_isPossible 16 (.ifCond .eq 24) 24 40 19 := by decide +kernel
theorem d8_isPossible_19 : jda cX8_isPossible 19 0 20 := Or.inl ⟨0, by decide +kernel⟩
theorem d8_isPossible_20 : jd cX8_isPossible 20 (.getfield 9) 3 23 := by decide +kernel
theorem d8_isPossible_23 : jdi cX8_isPossible 23 1 24 := Or.inl ⟨1, by decide +kernel⟩
theorem d8_isPossible_24 : jd cX8_isPossible 24 (.iaload) 1 25 := by decide +kernel
theorem d8_isPossible_25 : jdi cX8_isPossible 25 2 26 := Or.inl ⟨2, by decide +kernel⟩
theorem d8_isPossible_26 : jdk cX8_isPossible 26 9 28 := Or.inr (Or.inl ⟨9, by decide +kernel⟩)
theorem d8_isPossible_28 : jd cX8_isPossible 28 (.irem) 1 29 := by decide +kernel
theorem d8_isPossible_29 : jd cX8_isPossible 29 (.invokestatic 68) 3 32 := by decide +kernel
theorem d8_isPossible_32 : jdk cX8_isPossible 32 1 33 := Or.inl ⟨1, by decide +kernel⟩
theorem d8_isPossible_33 : jdb cX8_isPossible 33 (.if_icmp .ne 7) 7 40 36 := by decide +kernel
theorem d8_isPossible_36 : jdk cX8_isPossible 36 1 37 := Or.inl ⟨1, by decide +kernel⟩
theorem d8_isPossible_37 : jdb cX8_isPossible 37 (.goto 4) 4 41 40 := by decide +kernel
theorem d8_isPossible_40 : jdk cX8_isPossible 40 0 41 := Or.inl ⟨0, by decide +kernel⟩
theorem d8_isPossible_41 : decode cX8_isPossible 41 = .ok (.ireturn, 1) := by decide +kernel
set_option maxHeartbeats 4000000 in
set_option maxRecDepth 100000 in
theorem kX8_isPossible (l : Launch) (D : va_G) (tc : jTC) (h_ h_rules h_rules_codes h_select : Nat) (g_sets g_possible g_lowest g_conflicts g_rules_count : Value) (c_rules_codes : (Nat → Int32)) (c_select : (Nat → Int32)) (p1 : Int32) (p2 : Int32) : ctI0 l D tc yX8_isPossible (Cond.code yX8_isPossible cX8_isPossible 3 (some .boolean) :: jtb) ({ frames := 2, cells := 0, slots := 0, locals := 41 } : Room) [.ref h_, .int p1, .int p2] [(h_, .inr (8, [.ref h_rules, g_sets, .ref h_select, g_possible, g_lowest, g_conflicts])), (h_rules, .inr (6, [.ref h_rules_codes, g_rules_count])), (h_rules_codes, .inl (tc.1, 24, .inl c_rules_codes)), (h_select, .inl (tc.1, 24, .inl c_select))] (fX8_isPossible c_rules_codes c_select p1 p2) := by
  refine ctI0_of (lv0 := [(0, .ref h_), (1, .int p1), (2, .int p2)]) (by decide +kernel) (Nat.le_of_ble_eq_true rfl) rfl (fun X C => ?_)
  unfold fX8_isPossible
  refine j_aload C d8_isPossible_0 0 rfl ?_
  refine j_get C d8_isPossible_1 fl8_21 0 rfl rfl ?_
  refine j_get C d8_isPossible_4 fl8_35 1 rfl rfl ?_
  refine j_iload C d8_isPossible_7 1 rfl ?_
  refine j_iald C d8_isPossible_8 2 rfl (fun x1 => ?_)
  refine j_iload C d8_isPossible_9 2 rfl ?_
  refine j_const C d8_isPossible_10 ?_
  refine j_idiv C d8_isPossible_12 (by decide) ?_
  refine j_callSI0 (As := [.int x1, .int (p2 / (9 : Int32))]) C d8_isPossible_13 ms8_81 (kX6_isOf _ _ tc x1 (p2 / (9 : Int32))) ⟨rfl, rfl, Nat.le_of_ble_eq_true rfl, Nat.le_of_ble_eq_true rfl⟩ rfl [] rfl rfl rfl (Nat.le_of_ble_eq_true rfl) (fun x2 => ?_)
  refine j_join 41 (fun v3 => [(h_, .inr (8, [.ref h_rules, g_sets, .ref h_select, g_possible, g_lowest, g_conflicts])), (h_rules, .inr (6, [.ref h_rules_codes, g_rules_count])), (h_rules_codes, .inl (tc.1, 24, .inl c_rules_codes)), (h_select, .inl (tc.1, 24, .inl c_select))]) (fun v3 => []) (fun v3 => [.int v3]) (fun v3 => ?_) (fun k4 hk4 => ?_)
  · refine j_gz (fun hz => ?_)
    exact j_zret0 C hz d8_isPossible_41
  · refine j_join 40 (fun v5 => [(h_, .inr (8, [.ref h_rules, g_sets, .ref h_select, g_possible, g_lowest, g_conflicts])), (h_rules, .inr (6, [.ref h_rules_codes, g_rules_count])), (h_rules_codes, .inl (tc.1, 24, .inl c_rules_codes)), (h_select, .inl (tc.1, 24, .inl c_select))]) (fun v5 => []) (fun v5 => []) (fun v5 => ?_) (fun k6 hk6 => ?_)
    · refine j_const C d8_isPossible_40 ?_
      exact hk4 _
    · refine j_if_eq C d8_isPossible_16 ?_ ?_
      · exact j_sub [] rfl (hk6 _)
      · refine j_aload C d8_isPossible_19 0 rfl ?_
        refine j_get C d8_isPossible_20 fl8_9 0 rfl rfl ?_
        refine j_iload C d8_isPossible_23 1 rfl ?_
        refine j_iald C d8_isPossible_24 3 rfl (fun x7 => ?_)
        refine j_iload C d8_isPossible_25 2 rfl ?_
        refine j_const C d8_isPossible_26 ?_
        refine j_irem C d8_isPossible_28 (by decide) ?_
        refine j_callNI0 (As := [.int x7, .int (p2 - p2 / (9 : Int32) * (9 : Int32))]) C d8_isPossible_29 mn8_68 (kX11_bit _ _ tc x7 (p2 - p2 / (9 : Int32) * (9 : Int32))) ⟨rfl, rfl, Nat.le_of_ble_eq_true rfl, Nat.le_of_ble_eq_true rfl⟩ rfl [] rfl rfl rfl (Nat.le_of_ble_eq_true rfl) (fun x8 => ?_)
        refine j_const C d8_isPossible_32 ?_
        refine j_icmp_ne C d8_isPossible_33 ?_ ?_
        · exact j_sub [] rfl (hk6 _)
        · refine j_const C d8_isPossible_36 ?_
          refine j_goto C d8_isPossible_37 ?_
          exact j_sub [] rfl (hk4 _)

theorem d8_conflictIn_0 : jdi cX8_conflictIn 0 2 1 := Or.inl ⟨2, by decide +kernel⟩
theorem d8_conflictIn_1 : jds cX8_conflictIn 1 3 2 := Or.inl ⟨3, by decide +kernel⟩
theorem d8_conflictIn_2 : jdk cX8_conflictIn 2 0 3 := Or.inl ⟨0, by decide +kernel⟩
theorem d8_conflictIn_3 : jds cX8_conflictIn 3 4 5 := Or.inr (by decide +kernel)
theorem d8_conflictIn_5 : jdi cX8_conflictIn 5 4 7 := Or.inr (by decide +kernel)
theorem d8_conflictIn_7 : jda cX8_conflictIn 7 0 8 := Or.inl ⟨0, by decide +kernel⟩
theorem d8_conflictIn_8 : jd cX8_conflictIn 8 (.getfield 21) 3 11 := by decide +kernel
theorem d8_conflictIn_11 : jd cX8_conflictIn 11 (.getfield 29) 3 14 := by decide +kernel
theorem d8_conflictIn_14 : jdb cX8_conflictIn 14 (.if_icmp .ge 69) 69 83 17 := by decide +kernel
theorem d8_conflictIn_17 : jdi cX8_conflictIn 17 4 19 := Or.inr (by decide +kernel)
theorem d8_conflictIn_19 : jdk cX8_conflictIn 19 1 20 := Or.inl ⟨1, by decide +kernel⟩
theorem d8_conflictIn_20 : jd cX8_conflictIn 20 (.iadd) 1 21 := by decide +kernel
theorem d8_conflictIn_21 : jds cX8_conflictIn 21 5 23 := Or.inr (by decide +kernel)
theorem d8_conflictIn_23 : jdi cX8_conflictIn 23 5 25 := Or.inr (by decide +kernel)
theorem d8_conflictIn_25 : jda cX8_conflictIn 25 0 26 := Or.inl ⟨0, by decide +kernel⟩
theorem d8_conflictIn_26 : jd cX8_conflictIn 26 (.getfield 21) 3 29 := by decide +kernel
theorem d8_conflictIn_29 : jd cX8_conflictIn 29 (.getfield 29) 3 32 := by decide +kernel
theorem d8_conflictIn_32 : jdb cX8_conflictIn 32 (.if_icmp .ge 45) 45 77 35 := by decide +kernel
theorem d8_conflictIn_35 : jda cX8_conflictIn 35 0 36 := Or.inl ⟨0, by decide +kernel⟩
theorem d8_conflictIn_36 : jdi cX8_conflictIn 36 4 38 := Or.inr (by decide +kernel)
theorem d8_conflictIn_38 : jdi cX8_conflictIn 38 1 39 := Or.inl ⟨1, by decide +kernel⟩
theorem d8_conflictIn_39 : jd cX8_conflictIn 39 (.invokevirtual 74) 3 42 := by decide +kernel
theorem d8_conflictIn_42 : jdb cX8_conflictIn 42 (.ifCond .eq 35) 35 77 45 := by decide +kernel
theorem d8_conflictIn_45 : jda cX8_conflictIn 45 0 46 := Or.inl ⟨0, by decide +kernel⟩
theorem d8_conflictIn_46 : jdi cX8_conflictIn 46 5 48 := Or.inr (by decide +kernel)
theorem d8_conflictIn_48 : jdi cX8_conflictIn 48 1 49 := Or.inl ⟨1, by decide +kernel⟩
theorem d8_conflictIn_49 : jd cX8_conflictIn 49 (.invokevirtual 74) 3 52 := by decide +kernel
theorem d8_conflictIn_52 : jdb cX8_conflictIn 52 (.ifCond .eq 19) 19 71 55 := by decide +kernel
theorem d8_conflictIn_55 : jdi cX8_conflictIn 55 3 56 := Or.inl ⟨3, by decide +kernel⟩
theorem d8_conflictIn_56 : jdb cX8_conflictIn 56 (.ifCond .ne 12) 12 68 59 := by decide +kernel
theorem d8_conflictIn_59 : jdi cX8_conflictIn 59 1 60 := Or.inl ⟨1, by decide +kernel⟩
theorem d8_conflictIn_60 : jdi cX8_conflictIn 60 4 62 := Or.inr (by decide +kernel)
theorem d8_conflictIn_62 : jdi cX8_conflictIn 62 5 64 := Or.inr (by decide +kernel)
theorem d8_conflictIn_64 : jd cX8_conflictIn 64 (.invokestatic 77) 3 67 := by decide +kernel
theorem d8_conflictIn_67 : decode cX8_conflictIn 67 = .ok (.ireturn, 1) := by decide +kernel
theorem d8_conflictIn_68 : jd cX8_conflictIn 68 (.iinc 3 (-1)) 3 71 := by decide +kernel
theorem d8_conflictIn_71 : jd cX8_conflictIn 71 (.iinc 5 1) 3 74 := by decide +kernel
theorem d8_conflictIn_74 : jdb cX8_conflictIn 74 (.goto (-51)) (-51) 23 77 := by decide +kernel
theorem d8_conflictIn_77 : jd cX8_conflictIn 77 (.iinc 4 1) 3 80 := by decide +kernel
theorem d8_conflictIn_80 : jdb cX8_conflictIn 80 (.goto (-75)) (-75) 5 83 := by decide +kernel
theorem d8_conflictIn_83 : jdk cX8_conflictIn 83 (-1) 84 := Or.inl ⟨(-1), by decide +kernel⟩
theorem d8_conflictIn_84 : decode cX8_conflictIn 84 = .ok (.ireturn, 1) := by decide +kernel
set_option maxHeartbeats 4000000 in
set_option maxRecDepth 100000 in
theorem wX8_conflictIn_23 {X : jC} {tc : jTC} (C : jx X cX8_conflictIn 6 RX8 (some .int) tc ({ frames := 3, cells := 0, slots := 0, locals := 63 } : Room)) (h_ h_rules h_rules_codes h_select : Nat) (g_sets g_possible g_lowest g_conflicts : Value) (p1 : Int32) (c_rules_codes : (Nat → Int32)) (c_rules_count : Int32) (c_select : (Nat → Int32)) (v4 : Int32) (k9 : (Int32 → Option (Int32))) (hk9 : ∀ (v20 : Int32), jo X 6 (0, 0) (jQI0 X [(h_, .inr (8, [.ref h_rules, g_sets, .ref h_select, g_possible, g_lowest, g_conflicts])), (h_rules, .inr (6, [.ref h_rules_codes, .int c_rules_count])), (h_rules_codes, .inl (tc.1, 24, .inl c_rules_codes)), (h_select, .inl (tc.1, 24, .inl c_select))]) (k9 v20) [(h_, .inr (8, [.ref h_rules, g_sets, .ref h_select, g_possible, g_lowest, g_conflicts])), (h_rules, .inr (6, [.ref h_rules_codes, .int c_rules_count])), (h_rules_codes, .inl (tc.1, 24, .inl c_rules_codes)), (h_select, .inl (tc.1, 24, .inl c_select))] 77 [(0, .ref h_), (1, .int p1), (3, .int v20), (4, .int v4)] []) (rc12 : Int32 → Int32 → Option (Int32)) (hrc12 : ∀ (v10 : Int32) (v11 : Int32), jo X 6 (0, 0) (jQI0 X [(h_, .inr (8, [.ref h_rules, g_sets, .ref h_select, g_possible, g_lowest, g_conflicts])), (h_rules, .inr (6, [.ref h_rules_codes, .int c_rules_count])), (h_rules_codes, .inl (tc.1, 24, .inl c_rules_codes)), (h_select, .inl (tc.1, 24, .inl c_select))]) (rc12 v10 v11) [(h_, .inr (8, [.ref h_rules, g_sets, .ref h_select, g_possible, g_lowest, g_conflicts])), (h_rules, .inr (6, [.ref h_rules_codes, .int c_rules_count])), (h_rules_codes, .inl (tc.1, 24, .inl c_rules_codes)), (h_select, .inl (tc.1, 24, .inl c_select))] 23 [(0, .ref h_), (1, .int p1), (3, .int v10), (4, .int v4), (5, .int v11)] []) (v10 : Int32) (v11 : Int32) : jo X 6 (0, 0) (jQI0 X [(h_, .inr (8, [.ref h_rules, g_sets, .ref h_select, g_possible, g_lowest, g_conflicts])), (h_rules, .inr (6, [.ref h_rules_codes, .int c_rules_count])), (h_rules_codes, .inl (tc.1, 24, .inl c_rules_codes)), (h_select, .inl (tc.1, 24, .inl c_select))]) (bX8_conflictIn_23 p1 c_rules_codes c_rules_count c_select v4 k9 rc12 v10 v11) [(h_, .inr (8, [.ref h_rules, g_sets, .ref h_select, g_possible, g_lowest, g_conflicts])), (h_rules, .inr (6, [.ref h_rules_codes, .int c_rules_count])), (h_rules_codes, .inl (tc.1, 24, .inl c_rules_codes)), (h_select, .inl (tc.1, 24, .inl c_select))] 23 [(0, .ref h_), (1, .int p1), (3, .int v10), (4, .int v4), (5, .int v11)] [] := by
  unfold bX8_conflictIn_23
  refine j_iload C d8_conflictIn_23 4 rfl ?_
  refine j_aload C d8_conflictIn_25 0 rfl ?_
  refine j_get C d8_conflictIn_26 fl8_21 0 rfl rfl ?_
  refine j_get C d8_conflictIn_29 fl8_29 1 rfl rfl ?_
  refine j_icmp_ge C d8_conflictIn_32 ?_ ?_
  · exact j_sub [0, 1, 2, 3] rfl (hk9 _)
  · refine j_aload C d8_conflictIn_35 0 rfl ?_
    refine j_iload C d8_conflictIn_36 3 rfl ?_
    refine j_iload C d8_conflictIn_38 1 rfl ?_
    refine j_callVI0 (As := [.int v4, .int p1]) C d8_conflictIn_39 mv8_74 (kX8_isPossible _ _ tc h_ h_rules h_rules_codes h_select g_sets g_possible g_lowest g_conflicts (.int c_rules_count) c_rules_codes c_select v4 p1) ⟨rfl, rfl, Nat.le_of_ble_eq_true rfl, Nat.le_of_ble_eq_true rfl⟩ rfl 0 rfl [0, 1, 2, 3] rfl rfl rfl (Nat.le_of_ble_eq_true rfl) (fun x13 => ?_)
    refine j_if_eq C d8_conflictIn_42 ?_ ?_
    · exact j_sub [0, 1, 2, 3] rfl (hk9 _)
    · refine j_aload C d8_conflictIn_45 0 rfl ?_
      refine j_iload C d8_conflictIn_46 4 rfl ?_
      refine j_iload C d8_conflictIn_48 1 rfl ?_
      refine j_callVI0 (As := [.int v11, .int p1]) C d8_conflictIn_49 mv8_74 (kX8_isPossible _ _ tc h_ h_rules h_rules_codes h_select g_sets g_possible g_lowest g_conflicts (.int c_rules_count) c_rules_codes c_select v11 p1) ⟨rfl, rfl, Nat.le_of_ble_eq_true rfl, Nat.le_of_ble_eq_true rfl⟩ rfl 0 rfl [0, 1, 2, 3] rfl rfl rfl (Nat.le_of_ble_eq_true rfl) (fun x14 => ?_)
      refine j_join 71 (fun v15 => [(h_, .inr (8, [.ref h_rules, g_sets, .ref h_select, g_possible, g_lowest, g_conflicts])), (h_rules, .inr (6, [.ref h_rules_codes, .int c_rules_count])), (h_rules_codes, .inl (tc.1, 24, .inl c_rules_codes)), (h_select, .inl (tc.1, 24, .inl c_select))]) (fun v15 => [(0, .ref h_), (1, .int p1), (3, .int v15), (4, .int v4), (5, .int v11)]) (fun v15 => []) (fun v15 => ?_) (fun k17 hk17 => ?_)
      · refine j_iincN C (fun x16 => [(5, .int x16), (0, .ref h_), (1, .int p1), (3, .int v15), (4, .int v4)]) d8_conflictIn_71 4 rfl (by decide +kernel) (by decide) (fun _ => rfl) (fun x16 => ?_)
        refine j_goto C d8_conflictIn_74 ?_
        exact j_sub [1, 2, 3, 4, 0] rfl (hrc12 _ _)
      · refine j_if_eq C d8_conflictIn_52 ?_ ?_
        · exact hk17 _
        · refine j_iload C d8_conflictIn_55 2 rfl ?_
          refine j_if_ne C d8_conflictIn_56 ?_ ?_
          · refine j_iincN C (fun x18 => [(3, .int x18), (0, .ref h_), (1, .int p1), (4, .int v4), (5, .int v11)]) d8_conflictIn_68 2 rfl (by decide +kernel) (by decide) (fun _ => rfl) (fun x18 => ?_)
            exact j_sub [1, 2, 0, 3, 4] rfl (hk17 _)
          · refine j_iload C d8_conflictIn_59 1 rfl ?_
            refine j_iload C d8_conflictIn_60 3 rfl ?_
            refine j_iload C d8_conflictIn_62 4 rfl ?_
            refine j_callSI0 (As := [.int p1, .int v4, .int v11]) C d8_conflictIn_64 ms8_77 (kX8_conflictOf _ _ tc p1 v4 v11) ⟨rfl, rfl, Nat.le_of_ble_eq_true rfl, Nat.le_of_ble_eq_true rfl⟩ rfl [] rfl rfl rfl (Nat.le_of_ble_eq_true rfl) (fun x19 => ?_)
            exact j_iret0 C d8_conflictIn_67

set_option maxHeartbeats 4000000 in
set_option maxRecDepth 100000 in
theorem wX8_conflictIn_5 {X : jC} {tc : jTC} (C : jx X cX8_conflictIn 6 RX8 (some .int) tc ({ frames := 3, cells := 0, slots := 0, locals := 63 } : Room)) (N : Nat) (h_ h_rules h_rules_codes h_select : Nat) (g_sets g_possible g_lowest g_conflicts : Value) (p1 : Int32) (c_rules_codes : (Nat → Int32)) (c_rules_count : Int32) (c_select : (Nat → Int32)) (k2 : (Unit → Option (Int32))) (hk2 : ∀ (v21 : Unit), jo X 6 (0, 0) (jQI0 X [(h_, .inr (8, [.ref h_rules, g_sets, .ref h_select, g_possible, g_lowest, g_conflicts])), (h_rules, .inr (6, [.ref h_rules_codes, .int c_rules_count])), (h_rules_codes, .inl (tc.1, 24, .inl c_rules_codes)), (h_select, .inl (tc.1, 24, .inl c_select))]) (k2 v21) [(h_, .inr (8, [.ref h_rules, g_sets, .ref h_select, g_possible, g_lowest, g_conflicts])), (h_rules, .inr (6, [.ref h_rules_codes, .int c_rules_count])), (h_rules_codes, .inl (tc.1, 24, .inl c_rules_codes)), (h_select, .inl (tc.1, 24, .inl c_select))] 83 [] []) (rc5 : Int32 → Int32 → Option (Int32)) (hrc5 : ∀ (v3 : Int32) (v4 : Int32), jo X 6 (0, 0) (jQI0 X [(h_, .inr (8, [.ref h_rules, g_sets, .ref h_select, g_possible, g_lowest, g_conflicts])), (h_rules, .inr (6, [.ref h_rules_codes, .int c_rules_count])), (h_rules_codes, .inl (tc.1, 24, .inl c_rules_codes)), (h_select, .inl (tc.1, 24, .inl c_select))]) (rc5 v3 v4) [(h_, .inr (8, [.ref h_rules, g_sets, .ref h_select, g_possible, g_lowest, g_conflicts])), (h_rules, .inr (6, [.ref h_rules_codes, .int c_rules_count])), (h_rules_codes, .inl (tc.1, 24, .inl c_rules_codes)), (h_select, .inl (tc.1, 24, .inl c_select))] 5 [(0, .ref h_), (1, .int p1), (3, .int v3), (4, .int v4)] []) (v3 : Int32) (v4 : Int32) : jo X 6 (0, 0) (jQI0 X [(h_, .inr (8, [.ref h_rules, g_sets, .ref h_select, g_possible, g_lowest, g_conflicts])), (h_rules, .inr (6, [.ref h_rules_codes, .int c_rules_count])), (h_rules_codes, .inl (tc.1, 24, .inl c_rules_codes)), (h_select, .inl (tc.1, 24, .inl c_select))]) (bX8_conflictIn_5 N p1 c_rules_codes c_rules_count c_select k2 rc5 v3 v4) [(h_, .inr (8, [.ref h_rules, g_sets, .ref h_select, g_possible, g_lowest, g_conflicts])), (h_rules, .inr (6, [.ref h_rules_codes, .int c_rules_count])), (h_rules_codes, .inl (tc.1, 24, .inl c_rules_codes)), (h_select, .inl (tc.1, 24, .inl c_select))] 5 [(0, .ref h_), (1, .int p1), (3, .int v3), (4, .int v4)] [] := by
  unfold bX8_conflictIn_5
  refine j_iload C d8_conflictIn_5 3 rfl ?_
  refine j_aload C d8_conflictIn_7 0 rfl ?_
  refine j_get C d8_conflictIn_8 fl8_21 0 rfl rfl ?_
  refine j_get C d8_conflictIn_11 fl8_29 1 rfl rfl ?_
  refine j_icmp_ge C d8_conflictIn_14 ?_ ?_
  · exact j_sub [] rfl (hk2 _)
  · refine j_iload C d8_conflictIn_17 3 rfl ?_
    refine j_const C d8_conflictIn_19 ?_
    refine j_iadd C d8_conflictIn_20 ?_
    refine j_leti (fun x6 => ?_)
    refine j_istore C d8_conflictIn_21 (by decide) (lv' := [(5, .int x6), (0, .ref h_), (1, .int p1), (3, .int v3), (4, .int v4)]) rfl ?_
    refine j_join 77 (fun v7 => [(h_, .inr (8, [.ref h_rules, g_sets, .ref h_select, g_possible, g_lowest, g_conflicts])), (h_rules, .inr (6, [.ref h_rules_codes, .int c_rules_count])), (h_rules_codes, .inl (tc.1, 24, .inl c_rules_codes)), (h_select, .inl (tc.1, 24, .inl c_select))]) (fun v7 => [(0, .ref h_), (1, .int p1), (3, .int v7), (4, .int v4)]) (fun v7 => []) (fun v7 => ?_) (fun k9 hk9 => ?_)
    · refine j_iincN C (fun x8 => [(4, .int x8), (0, .ref h_), (1, .int p1), (3, .int v7)]) d8_conflictIn_77 3 rfl (by decide +kernel) (by decide) (fun _ => rfl) (fun x8 => ?_)
      refine j_goto C d8_conflictIn_80 ?_
      exact j_sub [1, 2, 3, 0] rfl (hrc5 _ _)
    · exact j_sub [1, 2, 3, 4, 0] rfl (j_loop2 (fun v10 v11 => [(h_, .inr (8, [.ref h_rules, g_sets, .ref h_select, g_possible, g_lowest, g_conflicts])), (h_rules, .inr (6, [.ref h_rules_codes, .int c_rules_count])), (h_rules_codes, .inl (tc.1, 24, .inl c_rules_codes)), (h_select, .inl (tc.1, 24, .inl c_select))]) (fun v10 v11 => [(0, .ref h_), (1, .int p1), (3, .int v10), (4, .int v4), (5, .int v11)]) (fun rc12 hrc12 v10 v11 => wX8_conflictIn_23 C h_ h_rules h_rules_codes h_select g_sets g_possible g_lowest g_conflicts p1 c_rules_codes c_rules_count c_select v4 k9 hk9 rc12 hrc12 v10 v11) N _ _)

set_option maxHeartbeats 4000000 in
set_option maxRecDepth 100000 in
theorem kX8_conflictIn (l : Launch) (D : va_G) (tc : jTC) (N : Nat) (h_ h_rules h_rules_codes h_select : Nat) (g_sets g_possible g_lowest g_conflicts : Value) (c_rules_codes : (Nat → Int32)) (c_rules_count : Int32) (c_select : (Nat → Int32)) (p1 : Int32) (p2 : Int32) : ctI0 l D tc yX8_conflictIn (Cond.code yX8_conflictIn cX8_conflictIn 6 (some .int) :: jtb) ({ frames := 3, cells := 0, slots := 0, locals := 63 } : Room) [.ref h_, .int p1, .int p2] [(h_, .inr (8, [.ref h_rules, g_sets, .ref h_select, g_possible, g_lowest, g_conflicts])), (h_rules, .inr (6, [.ref h_rules_codes, .int c_rules_count])), (h_rules_codes, .inl (tc.1, 24, .inl c_rules_codes)), (h_select, .inl (tc.1, 24, .inl c_select))] (fX8_conflictIn N c_rules_codes c_rules_count c_select p1 p2) := by
  refine ctI0_of (lv0 := [(0, .ref h_), (1, .int p1), (2, .int p2)]) (by decide +kernel) (Nat.le_of_ble_eq_true rfl) rfl (fun X C => ?_)
  unfold fX8_conflictIn
  refine j_iload C d8_conflictIn_0 2 rfl ?_
  refine j_istore C d8_conflictIn_1 (by decide) (lv' := [(3, .int p2), (0, .ref h_), (1, .int p1), (2, .int p2)]) rfl ?_
  refine j_const C d8_conflictIn_2 ?_
  refine j_istore C d8_conflictIn_3 (by decide) (lv' := [(4, .int 0), (3, .int p2), (0, .ref h_), (1, .int p1), (2, .int p2)]) rfl ?_
  refine j_join 83 (fun v1 => [(h_, .inr (8, [.ref h_rules, g_sets, .ref h_select, g_possible, g_lowest, g_conflicts])), (h_rules, .inr (6, [.ref h_rules_codes, .int c_rules_count])), (h_rules_codes, .inl (tc.1, 24, .inl c_rules_codes)), (h_select, .inl (tc.1, 24, .inl c_select))]) (fun v1 => []) (fun v1 => []) (fun v1 => ?_) (fun k2 hk2 => ?_)
  · refine j_const C d8_conflictIn_83 ?_
    exact j_iret0 C d8_conflictIn_84
  · exact j_sub [2, 3, 1, 0] rfl (j_loop2 (fun v3 v4 => [(h_, .inr (8, [.ref h_rules, g_sets, .ref h_select, g_possible, g_lowest, g_conflicts])), (h_rules, .inr (6, [.ref h_rules_codes, .int c_rules_count])), (h_rules_codes, .inl (tc.1, 24, .inl c_rules_codes)), (h_select, .inl (tc.1, 24, .inl c_select))]) (fun v3 v4 => [(0, .ref h_), (1, .int p1), (3, .int v3), (4, .int v4)]) (fun rc5 hrc5 v3 v4 => wX8_conflictIn_5 C N h_ h_rules h_rules_codes h_select g_sets g_possible g_lowest g_conflicts p1 c_rules_codes c_rules_count c_select k2 hk2 rc5 hrc5 v3 v4) N _ _)

theorem d8_conflictAt_0 : jdi cX8_conflictAt 0 1 1 := Or.inl ⟨1, by decide +kernel⟩
theorem d8_conflictAt_1 : jds cX8_conflictAt 1 2 2 := Or.inl ⟨2, by decide +kernel⟩
theorem d8_conflictAt_2 : jdk cX8_conflictAt 2 0 3 := Or.inl ⟨0, by decide +kernel⟩
theorem d8_conflictAt_3 : jds cX8_conflictAt 3 3 4 := Or.inl ⟨3, by decide +kernel⟩
theorem d8_conflictAt_4 : jdi cX8_conflictAt 4 3 5 := Or.inl ⟨3, by decide +kernel⟩
theorem d8_conflictAt_5 : jdk cX8_conflictAt 5 72 7 := Or.inr (Or.inl ⟨72, by decide +kernel⟩)
theorem d8_conflictAt_7 : jdb cX8_conflictAt 7 (.if_icmp .ge 34) 34 41 10 := by decide +kernel
theorem d8_conflictAt_10 : jda cX8_conflictAt 10 0 11 := Or.inl ⟨0, by decide +kernel⟩
theorem d8_conflictAt_11 : jdi cX8_conflictAt 11 3 12 := Or.inl ⟨3, by decide +kernel⟩
theorem d8_conflictAt_12 : jd cX8_conflictAt 12 (.invokevirtual 49) 3 15 := by decide +kernel
theorem d8_conflictAt_15 : jds cX8_conflictAt 15 4 17 := Or.inr (by decide +kernel)
theorem d8_conflictAt_17 : jdi cX8_conflictAt 17 2 18 := Or.inl ⟨2, by decide +kernel⟩
theorem d8_conflictAt_18 : jdi cX8_conflictAt 18 4 20 := Or.inr (by decide +kernel)
theorem d8_conflictAt_20 : jdb cX8_conflictAt 20 (.if_icmp .ge 10) 10 30 23 := by decide +kernel
theorem d8_conflictAt_23 : jda cX8_conflictAt 23 0 24 := Or.inl ⟨0, by decide +kernel⟩
theorem d8_conflictAt_24 : jdi cX8_conflictAt 24 3 25 := Or.inl ⟨3, by decide +kernel⟩
theorem d8_conflictAt_25 : jdi cX8_conflictAt 25 2 26 := Or.inl ⟨2, by decide +kernel⟩
theorem d8_conflictAt_26 : jd cX8_conflictAt 26 (.invokevirtual 71) 3 29 := by decide +kernel
theorem d8_conflictAt_29 : decode cX8_conflictAt 29 = .ok (.ireturn, 1) := by decide +kernel
theorem d8_conflictAt_30 : jdi cX8_conflictAt 30 2 31 := Or.inl ⟨2, by decide +kernel⟩
theorem d8_conflictAt_31 : jdi cX8_conflictAt 31 4 33 := Or.inr (by decide +kernel)
theorem d8_conflictAt_33 : jd cX8_conflictAt 33 (.isub) 1 34 := by decide +kernel
theorem d8_conflictAt_34 : jds cX8_conflictAt 34 2 35 := Or.inl ⟨2, by decide +kernel⟩
theorem d8_conflictAt_35 : jd cX8_conflictAt 35 (.iinc 3 1) 3 38 := by decide +kernel
theorem d8_conflictAt_38 : jdb cX8_conflictAt 38 (.goto (-34)) (-34) 4 41 := by decide +kernel
theorem d8_conflictAt_41 : jdk cX8_conflictAt 41 (-1) 42 := Or.inl ⟨(-1), by decide +kernel⟩
theorem d8_conflictAt_42 : decode cX8_conflictAt 42 = .ok (.ireturn, 1) := by decide +kernel
set_option maxHeartbeats 4000000 in
set_option maxRecDepth 100000 in
theorem wX8_conflictAt_4 {X : jC} {tc : jTC} (C : jx X cX8_conflictAt 5 RX8 (some .int) tc ({ frames := 4, cells := 0, slots := 0, locals := 88 } : Room)) (N : Nat) (h_ h_rules h_rules_codes h_select h_possible : Nat) (g_sets g_lowest g_conflicts : Value) (c_rules_codes : (Nat → Int32)) (c_rules_count : Int32) (c_select : (Nat → Int32)) (c_possible : (Nat → Int32)) (k2 : (Unit → Option (Int32))) (hk2 : ∀ (v10 : Unit), jo X 5 (0, 0) (jQI0 X [(h_, .inr (8, [.ref h_rules, g_sets, .ref h_select, .ref h_possible, g_lowest, g_conflicts])), (h_rules, .inr (6, [.ref h_rules_codes, .int c_rules_count])), (h_rules_codes, .inl (tc.1, 24, .inl c_rules_codes)), (h_select, .inl (tc.1, 24, .inl c_select)), (h_possible, .inl (tc.1, 72, .inl c_possible))]) (k2 v10) [(h_, .inr (8, [.ref h_rules, g_sets, .ref h_select, .ref h_possible, g_lowest, g_conflicts])), (h_rules, .inr (6, [.ref h_rules_codes, .int c_rules_count])), (h_rules_codes, .inl (tc.1, 24, .inl c_rules_codes)), (h_select, .inl (tc.1, 24, .inl c_select)), (h_possible, .inl (tc.1, 72, .inl c_possible))] 41 [] []) (rc5 : Int32 → Int32 → Option (Int32)) (hrc5 : ∀ (v3 : Int32) (v4 : Int32), jo X 5 (0, 0) (jQI0 X [(h_, .inr (8, [.ref h_rules, g_sets, .ref h_select, .ref h_possible, g_lowest, g_conflicts])), (h_rules, .inr (6, [.ref h_rules_codes, .int c_rules_count])), (h_rules_codes, .inl (tc.1, 24, .inl c_rules_codes)), (h_select, .inl (tc.1, 24, .inl c_select)), (h_possible, .inl (tc.1, 72, .inl c_possible))]) (rc5 v3 v4) [(h_, .inr (8, [.ref h_rules, g_sets, .ref h_select, .ref h_possible, g_lowest, g_conflicts])), (h_rules, .inr (6, [.ref h_rules_codes, .int c_rules_count])), (h_rules_codes, .inl (tc.1, 24, .inl c_rules_codes)), (h_select, .inl (tc.1, 24, .inl c_select)), (h_possible, .inl (tc.1, 72, .inl c_possible))] 4 [(0, .ref h_), (2, .int v3), (3, .int v4)] []) (v3 : Int32) (v4 : Int32) : jo X 5 (0, 0) (jQI0 X [(h_, .inr (8, [.ref h_rules, g_sets, .ref h_select, .ref h_possible, g_lowest, g_conflicts])), (h_rules, .inr (6, [.ref h_rules_codes, .int c_rules_count])), (h_rules_codes, .inl (tc.1, 24, .inl c_rules_codes)), (h_select, .inl (tc.1, 24, .inl c_select)), (h_possible, .inl (tc.1, 72, .inl c_possible))]) (bX8_conflictAt_4 N c_rules_codes c_rules_count c_select c_possible k2 rc5 v3 v4) [(h_, .inr (8, [.ref h_rules, g_sets, .ref h_select, .ref h_possible, g_lowest, g_conflicts])), (h_rules, .inr (6, [.ref h_rules_codes, .int c_rules_count])), (h_rules_codes, .inl (tc.1, 24, .inl c_rules_codes)), (h_select, .inl (tc.1, 24, .inl c_select)), (h_possible, .inl (tc.1, 72, .inl c_possible))] 4 [(0, .ref h_), (2, .int v3), (3, .int v4)] [] := by
  unfold bX8_conflictAt_4
  refine j_iload C d8_conflictAt_4 2 rfl ?_
  refine j_const C d8_conflictAt_5 ?_
  refine j_icmp_ge C d8_conflictAt_7 ?_ ?_
  · exact j_sub [] rfl (hk2 _)
  · refine j_aload C d8_conflictAt_10 0 rfl ?_
    refine j_iload C d8_conflictAt_11 2 rfl ?_
    refine j_callVI0 (As := [.int v4]) C d8_conflictAt_12 mv8_49 (kX8_pairsIn _ _ tc h_ h_possible (.ref h_rules) g_sets (.ref h_select) g_lowest g_conflicts c_possible v4) ⟨rfl, rfl, Nat.le_of_ble_eq_true rfl, Nat.le_of_ble_eq_true rfl⟩ rfl 0 rfl [0, 4] rfl rfl rfl (Nat.le_of_ble_eq_true rfl) (fun x6 => ?_)
    refine j_istore C d8_conflictAt_15 (by decide) (lv' := [(4, .int x6), (0, .ref h_), (2, .int v3), (3, .int v4)]) rfl ?_
    refine j_iload C d8_conflictAt_17 2 rfl ?_
    refine j_iload C d8_conflictAt_18 0 rfl ?_
    refine j_icmp_ge C d8_conflictAt_20 ?_ ?_
    · refine j_iload C d8_conflictAt_30 2 rfl ?_
      refine j_iload C d8_conflictAt_31 0 rfl ?_
      refine j_isub C d8_conflictAt_33 ?_
      refine j_leti (fun x7 => ?_)
      refine j_istore C d8_conflictAt_34 (by decide) (lv' := [(2, .int x7), (4, .int x6), (0, .ref h_), (3, .int v4)]) rfl ?_
      refine j_iincN C (fun x8 => [(3, .int x8), (2, .int x7), (4, .int x6), (0, .ref h_)]) d8_conflictAt_35 3 rfl (by decide +kernel) (by decide) (fun _ => rfl) (fun x8 => ?_)
      refine j_goto C d8_conflictAt_38 ?_
      exact j_sub [3, 1, 0] rfl (hrc5 _ _)
    · refine j_aload C d8_conflictAt_23 1 rfl ?_
      refine j_iload C d8_conflictAt_24 3 rfl ?_
      refine j_iload C d8_conflictAt_25 2 rfl ?_
      refine j_callVI0 (As := [.int v4, .int v3]) C d8_conflictAt_26 mv8_71 (kX8_conflictIn _ _ tc N h_ h_rules h_rules_codes h_select g_sets (.ref h_possible) g_lowest g_conflicts c_rules_codes c_rules_count c_select v4 v3) ⟨rfl, rfl, Nat.le_of_ble_eq_true rfl, Nat.le_of_ble_eq_true rfl⟩ rfl 0 rfl [0, 1, 2, 3] rfl rfl rfl (Nat.le_of_ble_eq_true rfl) (fun x9 => ?_)
      exact j_iret0 C d8_conflictAt_29

set_option maxHeartbeats 4000000 in
set_option maxRecDepth 100000 in
theorem kX8_conflictAt (l : Launch) (D : va_G) (tc : jTC) (N : Nat) (h_ h_rules h_rules_codes h_select h_possible : Nat) (g_sets g_lowest g_conflicts : Value) (c_rules_codes : (Nat → Int32)) (c_rules_count : Int32) (c_select : (Nat → Int32)) (c_possible : (Nat → Int32)) (p1 : Int32) : ctI0 l D tc yX8_conflictAt (Cond.code yX8_conflictAt cX8_conflictAt 5 (some .int) :: jtb) ({ frames := 4, cells := 0, slots := 0, locals := 88 } : Room) [.ref h_, .int p1] [(h_, .inr (8, [.ref h_rules, g_sets, .ref h_select, .ref h_possible, g_lowest, g_conflicts])), (h_rules, .inr (6, [.ref h_rules_codes, .int c_rules_count])), (h_rules_codes, .inl (tc.1, 24, .inl c_rules_codes)), (h_select, .inl (tc.1, 24, .inl c_select)), (h_possible, .inl (tc.1, 72, .inl c_possible))] (fX8_conflictAt N c_rules_codes c_rules_count c_select c_possible p1) := by
  refine ctI0_of (lv0 := [(0, .ref h_), (1, .int p1)]) (by decide +kernel) (Nat.le_of_ble_eq_true rfl) rfl (fun X C => ?_)
  unfold fX8_conflictAt
  refine j_iload C d8_conflictAt_0 1 rfl ?_
  refine j_istore C d8_conflictAt_1 (by decide) (lv' := [(2, .int p1), (0, .ref h_), (1, .int p1)]) rfl ?_
  refine j_const C d8_conflictAt_2 ?_
  refine j_istore C d8_conflictAt_3 (by decide) (lv' := [(3, .int 0), (2, .int p1), (0, .ref h_), (1, .int p1)]) rfl ?_
  refine j_join 41 (fun v1 => [(h_, .inr (8, [.ref h_rules, g_sets, .ref h_select, .ref h_possible, g_lowest, g_conflicts])), (h_rules, .inr (6, [.ref h_rules_codes, .int c_rules_count])), (h_rules_codes, .inl (tc.1, 24, .inl c_rules_codes)), (h_select, .inl (tc.1, 24, .inl c_select)), (h_possible, .inl (tc.1, 72, .inl c_possible))]) (fun v1 => []) (fun v1 => []) (fun v1 => ?_) (fun k2 hk2 => ?_)
  · refine j_const C d8_conflictAt_41 ?_
    exact j_iret0 C d8_conflictAt_42
  · exact j_sub [2, 1, 0] rfl (j_loop2 (fun v3 v4 => [(h_, .inr (8, [.ref h_rules, g_sets, .ref h_select, .ref h_possible, g_lowest, g_conflicts])), (h_rules, .inr (6, [.ref h_rules_codes, .int c_rules_count])), (h_rules_codes, .inl (tc.1, 24, .inl c_rules_codes)), (h_select, .inl (tc.1, 24, .inl c_select)), (h_possible, .inl (tc.1, 72, .inl c_possible))]) (fun v3 v4 => [(0, .ref h_), (2, .int v3), (3, .int v4)]) (fun rc5 hrc5 v3 v4 => wX8_conflictAt_4 C N h_ h_rules h_rules_codes h_select h_possible g_sets g_lowest g_conflicts c_rules_codes c_rules_count c_select c_possible k2 hk2 rc5 hrc5 v3 v4) N _ _)

theorem d8_kindOf_0 : jdi cX8_kindOf 0 1 1 := Or.inl ⟨1, by decide +kernel⟩
theorem d8_kindOf_1 : jdk cX8_kindOf 1 1 2 := Or.inl ⟨1, by decide +kernel⟩
theorem d8_kindOf_2 : jd cX8_kindOf 2 (.invokestatic 84) 3 5 := by decide +kernel
theorem d8_kindOf_5 : jds cX8_kindOf 5 2 6 := Or.inl ⟨2, by decide +kernel⟩
theorem d8_kindOf_6 : jdk cX8_kindOf 6 2 7 := Or.inl ⟨2, by decide +kernel⟩
theorem d8_kindOf_7 : jds cX8_kindOf 7 3 8 := Or.inl ⟨3, by decide +kernel⟩
theorem d8_kindOf_8 : jdk cX8_kindOf 8 0 9 := Or.inl ⟨0, by decide +kernel⟩
theorem d8_kindOf_9 : jds cX8_kindOf 9 4 11 := Or.inr (by decide +kernel)
theorem d8_kindOf_11 : jdi cX8_kindOf 11 4 13 := Or.inr (by decide +kernel)
theorem d8_kindOf_13 : jdk cX8_kindOf 13 2 14 := Or.inl ⟨2, by decide +kernel⟩
theorem d8_kindOf_14 : jdb cX8_kindOf 14 (.if_icmp .ge 60) 60 74 17 := by decide +kernel
theorem d8_kindOf_17 : jdi cX8_kindOf 17 1 18 := Or.inl ⟨1, by decide +kernel⟩
theorem d8_kindOf_18 : jdk cX8_kindOf 18 2 19 := Or.inl ⟨2, by decide +kernel⟩
theorem d8_kindOf_19 : jdi cX8_kindOf 19 4 21 := Or.inr (by decide +kernel)
theorem d8_kindOf_21 : jd cX8_kindOf 21 (.iadd) 1 22 := by decide +kernel
theorem d8_kindOf_22 : jd cX8_kindOf 22 (.invokestatic 84) 3 25 := by decide +kernel
theorem d8_kindOf_25 : jds cX8_kindOf 25 5 27 := Or.inr (by decide +kernel)
theorem d8_kindOf_27 : jdi cX8_kindOf 27 3 28 := Or.inl ⟨3, by decide +kernel⟩
theorem d8_kindOf_28 : jda cX8_kindOf 28 0 29 := Or.inl ⟨0, by decide +kernel⟩
theorem d8_kindOf_29 : jd cX8_kindOf 29 (.getfield 21) 3 32 := by decide +kernel
theorem d8_kindOf_32 : jdi cX8_kindOf 32 5 34 := Or.inr (by decide +kernel)
theorem d8_kindOf_34 : jd cX8_kindOf 34 (.invokevirtual 87) 3 37 := by decide +kernel
theorem d8_kindOf_37 : jdb cX8_kindOf 37 (.ifCond .eq 28) 28 65 40 := by decide +kernel
theorem d8_kindOf_40 : jda cX8_kindOf 40 0 41 := Or.inl ⟨0, by decide +kernel⟩
theorem d8_kindOf_41 : jd cX8_kindOf 41 (.getfield 25) 3 44 := by decide +kernel
theorem d8_kindOf_44 : jda cX8_kindOf 44 0 45 := Or.inl ⟨0, by decide +kernel⟩
theorem d8_kindOf_45 : jd cX8_kindOf 45 (.getfield 21) 3 48 := by decide +kernel
theorem d8_kindOf_48 : jd cX8_kindOf 48 (.getfield 35) 3 51 := by decide +kernel
theorem d8_kindOf_51 : jdi cX8_kindOf 51 5 53 := Or.inr (by decide +kernel)
theorem d8_kindOf_53 : jd cX8_kindOf 53 (.iaload) 1 54 := by decide +kernel
theorem d8_kindOf_54 : jdk cX8_kindOf 54 0 55 := Or.inl ⟨0, by decide +kernel⟩
theorem d8_kindOf_55 : jd cX8_kindOf 55 (.invokevirtual 52) 3 58 := by decide +kernel
theorem d8_kindOf_58 : jdi cX8_kindOf 58 2 59 := Or.inl ⟨2, by decide +kernel⟩
theorem d8_kindOf_59 : jd cX8_kindOf 59 (.invokestatic 68) 3 62 := by decide +kernel
theorem d8_kindOf_62 : jdb cX8_kindOf 62 (.goto 4) 4 66 65 := by decide +kernel
theorem d8_kindOf_65 : jdk cX8_kindOf 65 0 66 := Or.inl ⟨0, by decide +kernel⟩
theorem d8_kindOf_66 : jd cX8_kindOf 66 (.isub) 1 67 := by decide +kernel
theorem d8_kindOf_67 : jds cX8_kindOf 67 3 68 := Or.inl ⟨3, by decide +kernel⟩
theorem d8_kindOf_68 : jd cX8_kindOf 68 (.iinc 4 1) 3 71 := by decide +kernel
theorem d8_kindOf_71 : jdb cX8_kindOf 71 (.goto (-60)) (-60) 11 74 := by decide +kernel
theorem d8_kindOf_74 : jdi cX8_kindOf 74 3 75 := Or.inl ⟨3, by decide +kernel⟩
theorem d8_kindOf_75 : decode cX8_kindOf 75 = .ok (.ireturn, 1) := by decide +kernel
set_option maxHeartbeats 4000000 in
set_option maxRecDepth 100000 in
theorem wX8_kindOf_11 {X : jC} {tc : jTC} (C : jx X cX8_kindOf 6 RX8 (some .int) tc ({ frames := 3, cells := 0, slots := 0, locals := 66 } : Room)) (N : Nat) (h_ h_rules h_rules_codes h_sets h_sets_first : Nat) (g_select g_possible g_lowest g_conflicts g_sets_follow g_sets_begins : Value) (p1 : Int32) (c_rules_codes : (Nat → Int32)) (c_rules_count : Int32) (c_sets_nullable : Int32) (c_sets_first : (Nat → Int32)) (x1 : Int32) (k3 : (Int32 → Option (Int32))) (hk3 : ∀ (v16 : Int32), jo X 6 (0, 0) (jQI0 X [(h_, .inr (8, [.ref h_rules, .ref h_sets, g_select, g_possible, g_lowest, g_conflicts])), (h_rules, .inr (6, [.ref h_rules_codes, .int c_rules_count])), (h_rules_codes, .inl (tc.1, 24, .inl c_rules_codes)), (h_sets, .inr (7, [.int c_sets_nullable, .ref h_sets_first, g_sets_follow, g_sets_begins])), (h_sets_first, .inl (tc.1, 8, .inl c_sets_first))]) (k3 v16) [(h_, .inr (8, [.ref h_rules, .ref h_sets, g_select, g_possible, g_lowest, g_conflicts])), (h_rules, .inr (6, [.ref h_rules_codes, .int c_rules_count])), (h_rules_codes, .inl (tc.1, 24, .inl c_rules_codes)), (h_sets, .inr (7, [.int c_sets_nullable, .ref h_sets_first, g_sets_follow, g_sets_begins])), (h_sets_first, .inl (tc.1, 8, .inl c_sets_first))] 74 [(3, .int v16)] []) (rc6 : Int32 → Int32 → Option (Int32)) (hrc6 : ∀ (v4 : Int32) (v5 : Int32), jo X 6 (0, 0) (jQI0 X [(h_, .inr (8, [.ref h_rules, .ref h_sets, g_select, g_possible, g_lowest, g_conflicts])), (h_rules, .inr (6, [.ref h_rules_codes, .int c_rules_count])), (h_rules_codes, .inl (tc.1, 24, .inl c_rules_codes)), (h_sets, .inr (7, [.int c_sets_nullable, .ref h_sets_first, g_sets_follow, g_sets_begins])), (h_sets_first, .inl (tc.1, 8, .inl c_sets_first))]) (rc6 v4 v5) [(h_, .inr (8, [.ref h_rules, .ref h_sets, g_select, g_possible, g_lowest, g_conflicts])), (h_rules, .inr (6, [.ref h_rules_codes, .int c_rules_count])), (h_rules_codes, .inl (tc.1, 24, .inl c_rules_codes)), (h_sets, .inr (7, [.int c_sets_nullable, .ref h_sets_first, g_sets_follow, g_sets_begins])), (h_sets_first, .inl (tc.1, 8, .inl c_sets_first))] 11 [(0, .ref h_), (1, .int p1), (2, .int x1), (3, .int v4), (4, .int v5)] []) (v4 : Int32) (v5 : Int32) : jo X 6 (0, 0) (jQI0 X [(h_, .inr (8, [.ref h_rules, .ref h_sets, g_select, g_possible, g_lowest, g_conflicts])), (h_rules, .inr (6, [.ref h_rules_codes, .int c_rules_count])), (h_rules_codes, .inl (tc.1, 24, .inl c_rules_codes)), (h_sets, .inr (7, [.int c_sets_nullable, .ref h_sets_first, g_sets_follow, g_sets_begins])), (h_sets_first, .inl (tc.1, 8, .inl c_sets_first))]) (bX8_kindOf_11 N p1 c_rules_codes c_rules_count c_sets_nullable c_sets_first x1 k3 rc6 v4 v5) [(h_, .inr (8, [.ref h_rules, .ref h_sets, g_select, g_possible, g_lowest, g_conflicts])), (h_rules, .inr (6, [.ref h_rules_codes, .int c_rules_count])), (h_rules_codes, .inl (tc.1, 24, .inl c_rules_codes)), (h_sets, .inr (7, [.int c_sets_nullable, .ref h_sets_first, g_sets_follow, g_sets_begins])), (h_sets_first, .inl (tc.1, 8, .inl c_sets_first))] 11 [(0, .ref h_), (1, .int p1), (2, .int x1), (3, .int v4), (4, .int v5)] [] := by
  unfold bX8_kindOf_11
  refine j_iload C d8_kindOf_11 4 rfl ?_
  refine j_const C d8_kindOf_13 ?_
  refine j_icmp_ge C d8_kindOf_14 ?_ ?_
  · exact j_sub [3] rfl (hk3 _)
  · refine j_iload C d8_kindOf_17 1 rfl ?_
    refine j_const C d8_kindOf_18 ?_
    refine j_iload C d8_kindOf_19 4 rfl ?_
    refine j_iadd C d8_kindOf_21 ?_
    refine j_callSI0 (As := [.int p1, .int ((2 : Int32) + v5)]) C d8_kindOf_22 ms8_84 (kX8_partOf _ _ tc p1 ((2 : Int32) + v5)) ⟨rfl, rfl, Nat.le_of_ble_eq_true rfl, Nat.le_of_ble_eq_true rfl⟩ rfl [] rfl rfl rfl (Nat.le_of_ble_eq_true rfl) (fun x7 => ?_)
    refine j_istore C d8_kindOf_25 (by decide) (lv' := [(5, .int x7), (0, .ref h_), (1, .int p1), (2, .int x1), (3, .int v4), (4, .int v5)]) rfl ?_
    refine j_iload C d8_kindOf_27 4 rfl ?_
    refine j_aload C d8_kindOf_28 1 rfl ?_
    refine j_get C d8_kindOf_29 fl8_21 0 rfl rfl ?_
    refine j_iload C d8_kindOf_32 0 rfl ?_
    refine j_callVI0 (As := [.int x7]) C d8_kindOf_34 mv8_87 (kX6_has _ _ tc h_rules (.ref h_rules_codes) c_rules_count x7) ⟨rfl, rfl, Nat.le_of_ble_eq_true rfl, Nat.le_of_ble_eq_true rfl⟩ rfl 1 rfl [1] rfl rfl rfl (Nat.le_of_ble_eq_true rfl) (fun x8 => ?_)
    refine j_join 66 (fun v9 => [(h_, .inr (8, [.ref h_rules, .ref h_sets, g_select, g_possible, g_lowest, g_conflicts])), (h_rules, .inr (6, [.ref h_rules_codes, .int c_rules_count])), (h_rules_codes, .inl (tc.1, 24, .inl c_rules_codes)), (h_sets, .inr (7, [.int c_sets_nullable, .ref h_sets_first, g_sets_follow, g_sets_begins])), (h_sets_first, .inl (tc.1, 8, .inl c_sets_first))]) (fun v9 => [(0, .ref h_), (1, .int p1), (2, .int x1), (4, .int v5)]) (fun v9 => [.int v9, .int v4]) (fun v9 => ?_) (fun k12 hk12 => ?_)
    · refine j_isub C d8_kindOf_66 ?_
      refine j_leti (fun x10 => ?_)
      refine j_istore C d8_kindOf_67 (by decide) (lv' := [(3, .int x10), (0, .ref h_), (1, .int p1), (2, .int x1), (4, .int v5)]) rfl ?_
      refine j_iincN C (fun x11 => [(4, .int x11), (3, .int x10), (0, .ref h_), (1, .int p1), (2, .int x1)]) d8_kindOf_68 4 rfl (by decide +kernel) (by decide) (fun _ => rfl) (fun x11 => ?_)
      refine j_goto C d8_kindOf_71 ?_
      exact j_sub [2, 3, 4, 1, 0] rfl (hrc6 _ _)
    · refine j_if_eq C d8_kindOf_37 ?_ ?_
      · refine j_const C d8_kindOf_65 ?_
        exact j_sub [1, 2, 3, 5] rfl (hk12 _)
      · refine j_aload C d8_kindOf_40 1 rfl ?_
        refine j_get C d8_kindOf_41 fl8_25 0 rfl rfl ?_
        refine j_aload C d8_kindOf_44 1 rfl ?_
        refine j_get C d8_kindOf_45 fl8_21 0 rfl rfl ?_
        refine j_get C d8_kindOf_48 fl8_35 1 rfl rfl ?_
        refine j_iload C d8_kindOf_51 0 rfl ?_
        refine j_iald C d8_kindOf_53 2 rfl (fun x13 => ?_)
        refine j_const C d8_kindOf_54 ?_
        refine j_callVI0 (As := [.int x13, .int 0]) C d8_kindOf_55 mv8_52 (kX7_firstFrom _ _ tc N h_sets h_sets_first g_sets_follow g_sets_begins c_sets_nullable c_sets_first x13 0) ⟨rfl, rfl, Nat.le_of_ble_eq_true rfl, Nat.le_of_ble_eq_true rfl⟩ rfl 3 rfl [3, 4] rfl rfl rfl (Nat.le_of_ble_eq_true rfl) (fun x14 => ?_)
        refine j_iload C d8_kindOf_58 3 rfl ?_
        refine j_callNI0 (As := [.int x14, .int x1]) C d8_kindOf_59 mn8_68 (kX11_bit _ _ tc x14 x1) ⟨rfl, rfl, Nat.le_of_ble_eq_true rfl, Nat.le_of_ble_eq_true rfl⟩ rfl [] rfl rfl rfl (Nat.le_of_ble_eq_true rfl) (fun x15 => ?_)
        refine j_goto C d8_kindOf_62 ?_
        exact j_sub [1, 2, 3, 5] rfl (hk12 _)

set_option maxHeartbeats 4000000 in
set_option maxRecDepth 100000 in
theorem kX8_kindOf (l : Launch) (D : va_G) (tc : jTC) (N : Nat) (h_ h_rules h_rules_codes h_sets h_sets_first : Nat) (g_select g_possible g_lowest g_conflicts g_sets_follow g_sets_begins : Value) (c_rules_codes : (Nat → Int32)) (c_rules_count : Int32) (c_sets_nullable : Int32) (c_sets_first : (Nat → Int32)) (p1 : Int32) : ctI0 l D tc yX8_kindOf (Cond.code yX8_kindOf cX8_kindOf 6 (some .int) :: jtb) ({ frames := 3, cells := 0, slots := 0, locals := 66 } : Room) [.ref h_, .int p1] [(h_, .inr (8, [.ref h_rules, .ref h_sets, g_select, g_possible, g_lowest, g_conflicts])), (h_rules, .inr (6, [.ref h_rules_codes, .int c_rules_count])), (h_rules_codes, .inl (tc.1, 24, .inl c_rules_codes)), (h_sets, .inr (7, [.int c_sets_nullable, .ref h_sets_first, g_sets_follow, g_sets_begins])), (h_sets_first, .inl (tc.1, 8, .inl c_sets_first))] (fX8_kindOf N c_rules_codes c_rules_count c_sets_nullable c_sets_first p1) := by
  refine ctI0_of (lv0 := [(0, .ref h_), (1, .int p1)]) (by decide +kernel) (Nat.le_of_ble_eq_true rfl) rfl (fun X C => ?_)
  unfold fX8_kindOf
  refine j_iload C d8_kindOf_0 1 rfl ?_
  refine j_const C d8_kindOf_1 ?_
  refine j_callSI0 (As := [.int p1, .int 1]) C d8_kindOf_2 ms8_84 (kX8_partOf _ _ tc p1 1) ⟨rfl, rfl, Nat.le_of_ble_eq_true rfl, Nat.le_of_ble_eq_true rfl⟩ rfl [] rfl rfl rfl (Nat.le_of_ble_eq_true rfl) (fun x1 => ?_)
  refine j_istore C d8_kindOf_5 (by decide) (lv' := [(2, .int x1), (0, .ref h_), (1, .int p1)]) rfl ?_
  refine j_const C d8_kindOf_6 ?_
  refine j_istore C d8_kindOf_7 (by decide) (lv' := [(3, .int 2), (2, .int x1), (0, .ref h_), (1, .int p1)]) rfl ?_
  refine j_const C d8_kindOf_8 ?_
  refine j_istore C d8_kindOf_9 (by decide) (lv' := [(4, .int 0), (3, .int 2), (2, .int x1), (0, .ref h_), (1, .int p1)]) rfl ?_
  refine j_join 74 (fun v2 => [(h_, .inr (8, [.ref h_rules, .ref h_sets, g_select, g_possible, g_lowest, g_conflicts])), (h_rules, .inr (6, [.ref h_rules_codes, .int c_rules_count])), (h_rules_codes, .inl (tc.1, 24, .inl c_rules_codes)), (h_sets, .inr (7, [.int c_sets_nullable, .ref h_sets_first, g_sets_follow, g_sets_begins])), (h_sets_first, .inl (tc.1, 8, .inl c_sets_first))]) (fun v2 => [(3, .int v2)]) (fun v2 => []) (fun v2 => ?_) (fun k3 hk3 => ?_)
  · refine j_iload C d8_kindOf_74 0 rfl ?_
    exact j_iret0 C d8_kindOf_75
  · exact j_sub [3, 4, 2, 1, 0] rfl (j_loop2 (fun v4 v5 => [(h_, .inr (8, [.ref h_rules, .ref h_sets, g_select, g_possible, g_lowest, g_conflicts])), (h_rules, .inr (6, [.ref h_rules_codes, .int c_rules_count])), (h_rules_codes, .inl (tc.1, 24, .inl c_rules_codes)), (h_sets, .inr (7, [.int c_sets_nullable, .ref h_sets_first, g_sets_follow, g_sets_begins])), (h_sets_first, .inl (tc.1, 8, .inl c_sets_first))]) (fun v4 v5 => [(0, .ref h_), (1, .int p1), (2, .int x1), (3, .int v4), (4, .int v5)]) (fun rc6 hrc6 v4 v5 => wX8_kindOf_11 C N h_ h_rules h_rules_codes h_sets h_sets_first g_select g_possible g_lowest g_conflicts g_sets_follow g_sets_begins p1 c_rules_codes c_rules_count c_sets_nullable c_sets_first x1 k3 hk3 rc6 hrc6 v4 v5) N _ _)

theorem d10_terminalOf_0 : jdi cX10_terminalOf 0 2 1 := Or.inl ⟨2, by decide +kernel⟩
theorem d10_terminalOf_1 : jdb cX10_terminalOf 1 (.ifCond .lt 12) 12 13 4 := by decide +kernel
theorem d10_terminalOf_4 : jdi cX10_terminalOf 4 2 5 := Or.inl ⟨2, by decide +kernel⟩
theorem d10_terminalOf_5 : jda cX10_terminalOf 5 0 6 := Or.inl ⟨0, by decide +kernel⟩
theorem d10_terminalOf_6 : jdi cX10_terminalOf 6 1 7 := Or.inl ⟨1, by decide +kernel⟩
theorem d10_terminalOf_7 : jd cX10_terminalOf 7 (.invokevirtual 33) 3 10 := by decide +kernel
theorem d10_terminalOf_10 : jdb cX10_terminalOf 10 (.if_icmp .lt 6) 6 16 13 := by decide +kernel
theorem d10_terminalOf_13 : jdk cX10_terminalOf 13 (-2) 15 := Or.inr (Or.inl ⟨(-2), by decide +kernel⟩)
theorem d10_terminalOf_15 : decode cX10_terminalOf 15 = .ok (.ireturn, 1) := by decide +kernel
theorem d10_terminalOf_16 : jda cX10_terminalOf 16 0 17 := Or.inl ⟨0, by decide +kernel⟩
theorem d10_terminalOf_17 : jdi cX10_terminalOf 17 1 18 := Or.inl ⟨1, by decide +kernel⟩
theorem d10_terminalOf_18 : jd cX10_terminalOf 18 (.invokevirtual 33) 3 21 := by decide +kernel
theorem d10_terminalOf_21 : jdk cX10_terminalOf 21 1 22 := Or.inl ⟨1, by decide +kernel⟩
theorem d10_terminalOf_22 : jd cX10_terminalOf 22 (.isub) 1 23 := by decide +kernel
theorem d10_terminalOf_23 : jdi cX10_terminalOf 23 2 24 := Or.inl ⟨2, by decide +kernel⟩
theorem d10_terminalOf_24 : jd cX10_terminalOf 24 (.isub) 1 25 := by decide +kernel
theorem d10_terminalOf_25 : jds cX10_terminalOf 25 3 26 := Or.inl ⟨3, by decide +kernel⟩
theorem d10_terminalOf_26 : jdi cX10_terminalOf 26 3 27 := Or.inl ⟨3, by decide +kernel⟩
theorem d10_terminalOf_27 : jdk cX10_terminalOf 27 20 29 := Or.inr (Or.inl ⟨20, by decide +kernel⟩)
theorem d10_terminalOf_29 : jdb cX10_terminalOf 29 (.if_icmp .ge 12) 12 41 32 := by decide +kernel
theorem d10_terminalOf_32 : jda cX10_terminalOf 32 0 33 := Or.inl ⟨0, by decide +kernel⟩
theorem d10_terminalOf_33 : jd cX10_terminalOf 33 (.getfield 25) 3 36 := by decide +kernel
theorem d10_terminalOf_36 : jdi cX10_terminalOf 36 1 37 := Or.inl ⟨1, by decide +kernel⟩
theorem d10_terminalOf_37 : jd cX10_terminalOf 37 (.laload) 1 38 := by decide +kernel
theorem d10_terminalOf_38 : jdb cX10_terminalOf 38 (.goto 9) 9 47 41 := by decide +kernel
theorem d10_terminalOf_41 : jda cX10_terminalOf 41 0 42 := Or.inl ⟨0, by decide +kernel⟩
theorem d10_terminalOf_42 : jd cX10_terminalOf 42 (.getfield 21) 3 45 := by decide +kernel
theorem d10_terminalOf_45 : jdi cX10_terminalOf 45 1 46 := Or.inl ⟨1, by decide +kernel⟩
theorem d10_terminalOf_46 : jd cX10_terminalOf 46 (.laload) 1 47 := by decide +kernel
theorem d10_terminalOf_47 : jd cX10_terminalOf 47 (.lstore 4) 2 49 := by decide +kernel
theorem d10_terminalOf_49 : jdi cX10_terminalOf 49 3 50 := Or.inl ⟨3, by decide +kernel⟩
theorem d10_terminalOf_50 : jdk cX10_terminalOf 50 20 52 := Or.inr (Or.inl ⟨20, by decide +kernel⟩)
theorem d10_terminalOf_52 : jdb cX10_terminalOf 52 (.if_icmp .ge 7) 7 59 55 := by decide +kernel
theorem d10_terminalOf_55 : jdi cX10_terminalOf 55 3 56 := Or.inl ⟨3, by decide +kernel⟩
theorem d10_terminalOf_56 : jdb cX10_terminalOf 56 (.goto 7) 7 63 59 := by decide +kernel
theorem d10_terminalOf_59 : jdi cX10_terminalOf 59 3 60 := Or.inl ⟨3, by decide +kernel⟩
theorem d10_terminalOf_60 : jdk cX10_terminalOf 60 20 62 := Or.inr (Or.inl ⟨20, by decide +kernel⟩)
theorem d10_terminalOf_62 : jd cX10_terminalOf 62 (.isub) 1 63 := by decide +kernel
theorem d10_terminalOf_63 : jds cX10_terminalOf 63 6 65 := Or.inr (by decide +kernel)
theorem d10_terminalOf_65 : jdl cX10_terminalOf 65 4 67 := Or.inr (by decide +kernel)
theorem d10_terminalOf_67 : jdk cX10_terminalOf 67 3 68 := Or.inl ⟨3, by decide +kernel⟩
theorem d10_terminalOf_68 : jdi cX10_terminalOf 68 6 70 := Or.inr (by decide +kernel)
theorem d10_terminalOf_70 : jd cX10_terminalOf 70 (.imul) 1 71 := by decide +kernel
theorem d10_terminalOf_71 : jd cX10_terminalOf 71 (.lshr) 1 72 := by decide +kernel
theorem d10_terminalOf_72 : jd cX10_terminalOf 72 (.l2i) 1 73 := by decide +kernel
theorem d10_terminalOf_73 : jdk cX10_terminalOf 73 7 75 := Or.inr (Or.inl ⟨7, by decide +kernel⟩)
theorem d10_terminalOf_75 : jd cX10_terminalOf 75 (.iand) 1 76 := by decide +kernel
theorem d10_terminalOf_76 : decode cX10_terminalOf 76 = .ok (.ireturn, 1) := by decide +kernel
set_option maxHeartbeats 4000000 in
set_option maxRecDepth 100000 in
theorem kX10_terminalOf (l : Launch) (D : va_G) (tc : jTC) (n : Nat) (h_ h_costs h_highs h_lows : Nat) (c_costs : (Nat → Int32)) (c_highs : (Nat → Int64)) (c_lows : (Nat → Int64)) (p1 : Int32) (p2 : Int32) : ctI0 l D tc yX10_terminalOf (Cond.code yX10_terminalOf cX10_terminalOf 7 (some .int) :: jtb) ({ frames := 2, cells := 0, slots := 0, locals := 42 } : Room) [.ref h_, .int p1, .int p2] [(h_, .inr (10, [.ref h_costs, .ref h_highs, .ref h_lows])), (h_costs, .inl (tc.1, n, .inl c_costs)), (h_highs, .inl (tc.2.1, n, .inr (.inl c_highs))), (h_lows, .inl (tc.2.1, n, .inr (.inl c_lows)))] (fX10_terminalOf n c_costs c_highs c_lows p1 p2) := by
  refine ctI0_of (lv0 := [(0, .ref h_), (1, .int p1), (2, .int p2)]) (by decide +kernel) (Nat.le_of_ble_eq_true rfl) rfl (fun X C => ?_)
  unfold fX10_terminalOf
  refine j_iload C d10_terminalOf_0 2 rfl ?_
  refine j_join 13 (fun v1 => [(h_, .inr (10, [.ref h_costs, .ref h_highs, .ref h_lows])), (h_costs, .inl (tc.1, n, .inl c_costs)), (h_highs, .inl (tc.2.1, n, .inr (.inl c_highs))), (h_lows, .inl (tc.2.1, n, .inr (.inl c_lows)))]) (fun v1 => []) (fun v1 => []) (fun v1 => ?_) (fun k2 hk2 => ?_)
  · refine j_const C d10_terminalOf_13 ?_
    exact j_iret0 C d10_terminalOf_15
  · refine j_if_lt C d10_terminalOf_1 ?_ ?_
    · exact j_sub [] rfl (hk2 _)
    · refine j_iload C d10_terminalOf_4 2 rfl ?_
      refine j_aload C d10_terminalOf_5 0 rfl ?_
      refine j_iload C d10_terminalOf_6 1 rfl ?_
      refine j_callVI0 (As := [.int p1]) C d10_terminalOf_7 mv10_33 (kX10_lengthOf _ _ tc n h_ h_costs (.ref h_highs) (.ref h_lows) c_costs p1) ⟨rfl, rfl, Nat.le_of_ble_eq_true rfl, Nat.le_of_ble_eq_true rfl⟩ rfl 0 rfl [0, 1] rfl rfl rfl (Nat.le_of_ble_eq_true rfl) (fun x3 => ?_)
      refine j_icmp_lt C d10_terminalOf_10 ?_ ?_
      · refine j_aload C d10_terminalOf_16 0 rfl ?_
        refine j_iload C d10_terminalOf_17 1 rfl ?_
        refine j_callVI0 (As := [.int p1]) C d10_terminalOf_18 mv10_33 (kX10_lengthOf _ _ tc n h_ h_costs (.ref h_highs) (.ref h_lows) c_costs p1) ⟨rfl, rfl, Nat.le_of_ble_eq_true rfl, Nat.le_of_ble_eq_true rfl⟩ rfl 0 rfl [0, 1] rfl rfl rfl (Nat.le_of_ble_eq_true rfl) (fun x4 => ?_)
        refine j_const C d10_terminalOf_21 ?_
        refine j_isub C d10_terminalOf_22 ?_
        refine j_iload C d10_terminalOf_23 2 rfl ?_
        refine j_isub C d10_terminalOf_24 ?_
        refine j_leti (fun x5 => ?_)
        refine j_istore C d10_terminalOf_25 (by decide) (lv' := [(3, .int x5), (0, .ref h_), (1, .int p1), (2, .int p2)]) rfl ?_
        refine j_iload C d10_terminalOf_26 0 rfl ?_
        refine j_const C d10_terminalOf_27 ?_
        refine j_join 47 (fun v6 => [(h_, .inr (10, [.ref h_costs, .ref h_highs, .ref h_lows])), (h_costs, .inl (tc.1, n, .inl c_costs)), (h_highs, .inl (tc.2.1, n, .inr (.inl c_highs))), (h_lows, .inl (tc.2.1, n, .inr (.inl c_lows)))]) (fun v6 => [(3, .int x5)]) (fun v6 => [.long v6]) (fun v6 => ?_) (fun k9 hk9 => ?_)
        · refine j_lstore C d10_terminalOf_47 (by decide) (lv' := [(4, .long v6), (3, .int x5)]) rfl ?_
          refine j_iload C d10_terminalOf_49 1 rfl ?_
          refine j_const C d10_terminalOf_50 ?_
          refine j_join 63 (fun v7 => [(h_, .inr (10, [.ref h_costs, .ref h_highs, .ref h_lows])), (h_costs, .inl (tc.1, n, .inl c_costs)), (h_highs, .inl (tc.2.1, n, .inr (.inl c_highs))), (h_lows, .inl (tc.2.1, n, .inr (.inl c_lows)))]) (fun v7 => [(4, .long v6)]) (fun v7 => [.int v7]) (fun v7 => ?_) (fun k8 hk8 => ?_)
          · refine j_istore C d10_terminalOf_63 (by decide) (lv' := [(6, .int v7), (4, .long v6)]) rfl ?_
            refine j_lload C d10_terminalOf_65 1 rfl ?_
            refine j_const C d10_terminalOf_67 ?_
            refine j_iload C d10_terminalOf_68 0 rfl ?_
            refine j_imul C d10_terminalOf_70 ?_
            refine j_lshr C d10_terminalOf_71 ?_
            refine j_l2i C d10_terminalOf_72 ?_
            refine j_const C d10_terminalOf_73 ?_
            refine j_iand C d10_terminalOf_75 ?_
            exact j_iret0 C d10_terminalOf_76
          · refine j_icmp_ge C d10_terminalOf_52 ?_ ?_
            · refine j_iload C d10_terminalOf_59 1 rfl ?_
              refine j_const C d10_terminalOf_60 ?_
              refine j_isub C d10_terminalOf_62 ?_
              exact j_sub [0] rfl (hk8 _)
            · refine j_iload C d10_terminalOf_55 1 rfl ?_
              refine j_goto C d10_terminalOf_56 ?_
              exact j_sub [0] rfl (hk8 _)
        · refine j_icmp_ge C d10_terminalOf_29 ?_ ?_
          · refine j_aload C d10_terminalOf_41 1 rfl ?_
            refine j_get C d10_terminalOf_42 fl10_21 0 rfl rfl ?_
            refine j_iload C d10_terminalOf_45 2 rfl ?_
            refine j_lald C d10_terminalOf_46 2 rfl (fun x10 => ?_)
            exact j_sub [0] rfl (hk9 _)
          · refine j_aload C d10_terminalOf_32 1 rfl ?_
            refine j_get C d10_terminalOf_33 fl10_25 0 rfl rfl ?_
            refine j_iload C d10_terminalOf_36 2 rfl ?_
            refine j_lald C d10_terminalOf_37 3 rfl (fun x11 => ?_)
            refine j_goto C d10_terminalOf_38 ?_
            exact j_sub [0] rfl (hk9 _)
      · exact j_sub [] rfl (hk2 _)

theorem d11_isNonterminal_0 : jdi cX11_isNonterminal 0 0 1 := Or.inl ⟨0, by decide +kernel⟩
theorem d11_isNonterminal_1 : jdb cX11_isNonterminal 1 (.ifCond .lt 13) 13 14 4 := by decide +kernel
theorem d11_isNonterminal_4 : jdi cX11_isNonterminal 4 0 5 := Or.inl ⟨0, by decide +kernel⟩
theorem d11_isNonterminal_5 : jdk cX11_isNonterminal 5 8 7 := Or.inr (Or.inl ⟨8, by decide +kernel⟩)
theorem d11_isNonterminal_7 : jdb cX11_isNonterminal 7 (.if_icmp .ge 7) 7 14 10 := by decide +kernel
theorem d11_isNonterminal_10 : jdk cX11_isNonterminal 10 1 11 := Or.inl ⟨1, by decide +kernel⟩
theorem d11_isNonterminal_11 : jdb cX11_isNonterminal 11 (.goto 4) 4 15 14 := by decide +kernel
theorem d11_isNonterminal_14 : jdk cX11_isNonterminal 14 0 15 := Or.inl ⟨0, by decide +kernel⟩
theorem d11_isNonterminal_15 : decode cX11_isNonterminal 15 = .ok (.ireturn, 1) := by decide +kernel
set_option maxHeartbeats 4000000 in
set_option maxRecDepth 100000 in
theorem kX11_isNonterminal (l : Launch) (D : va_G) (tc : jTC) (p0 : Int32) : ctI0 l D tc yX11_isNonterminal (Cond.code yX11_isNonterminal cX11_isNonterminal 1 (some .boolean) :: jtb) ({ frames := 0, cells := 0, slots := 0, locals := 0 } : Room) [.int p0] [] (fX11_isNonterminal p0) := by
  refine ctI0_of (lv0 := [(0, .int p0)]) (by decide +kernel) (Nat.le_of_ble_eq_true rfl) rfl (fun X C => ?_)
  unfold fX11_isNonterminal
  refine j_iload C d11_isNonterminal_0 0 rfl ?_
  refine j_join 15 (fun v1 => []) (fun v1 => []) (fun v1 => [.int v1]) (fun v1 => ?_) (fun k2 hk2 => ?_)
  · refine j_gz (fun hz => ?_)
    exact j_zret0 C hz d11_isNonterminal_15
  · refine j_join 14 (fun v3 => []) (fun v3 => []) (fun v3 => []) (fun v3 => ?_) (fun k4 hk4 => ?_)
    · refine j_const C d11_isNonterminal_14 ?_
      exact hk2 _
    · refine j_if_lt C d11_isNonterminal_1 ?_ ?_
      · exact j_sub [] rfl (hk4 _)
      · refine j_iload C d11_isNonterminal_4 0 rfl ?_
        refine j_const C d11_isNonterminal_5 ?_
        refine j_icmp_ge C d11_isNonterminal_7 ?_ ?_
        · exact j_sub [] rfl (hk4 _)
        · refine j_const C d11_isNonterminal_10 ?_
          refine j_goto C d11_isNonterminal_11 ?_
          exact j_sub [] rfl (hk2 _)

theorem d11_beginEdit_0 : jda cX11_beginEdit 0 0 1 := Or.inl ⟨0, by decide +kernel⟩
theorem d11_beginEdit_1 : jd cX11_beginEdit 1 (.getfield 30) 3 4 := by decide +kernel
theorem d11_beginEdit_4 : jda cX11_beginEdit 4 0 5 := Or.inl ⟨0, by decide +kernel⟩
theorem d11_beginEdit_5 : jd cX11_beginEdit 5 (.getfield 26) 3 8 := by decide +kernel
theorem d11_beginEdit_8 : jd cX11_beginEdit 8 (.invokevirtual 86) 3 11 := by decide +kernel
theorem d11_beginEdit_11 : jda cX11_beginEdit 11 0 12 := Or.inl ⟨0, by decide +kernel⟩
theorem d11_beginEdit_12 : jd cX11_beginEdit 12 (.getfield 19) 3 15 := by decide +kernel
theorem d11_beginEdit_15 : jda cX11_beginEdit 15 0 16 := Or.inl ⟨0, by decide +kernel⟩
theorem d11_beginEdit_16 : jd cX11_beginEdit 16 (.getfield 12) 3 19 := by decide +kernel
theorem d11_beginEdit_19 : jd cX11_beginEdit 19 (.invokevirtual 311) 3 22 := by decide +kernel
theorem d11_beginEdit_22 : decode cX11_beginEdit 22 = .ok (.areturn, 1) := by decide +kernel
set_option maxHeartbeats 4000000 in
set_option maxRecDepth 100000 in
theorem kX11_beginEdit (l : Launch) (D : va_G) (tc : jTC) (h_ h_rules h_rules_codes h_history h_history_saved h_sets h_sets_first h_sets_follow h_setsBefore h_setsBefore_first h_setsBefore_follow : Nat) (hR_history_saved hC_history_saved : Nat → Nat) (g_table g_failure g_input g_parser g_examples g_repairer g_sets_begins g_setsBefore_begins : Value) (c_rules_codes : (Nat → Int32)) (c_rules_count : Int32) (c_history_saved_codes : (Nat → Nat → Int32)) (c_history_saved_count : (Nat → Int32)) (c_history_newest : Int32) (c_history_size : Int32) (c_sets_nullable : Int32) (c_sets_first : (Nat → Int32)) (c_sets_follow : (Nat → Int32)) (c_setsBefore_nullable : Int32) (c_setsBefore_first : (Nat → Int32)) (c_setsBefore_follow : (Nat → Int32)) : ctR l D tc yX11_beginEdit (Cond.code yX11_beginEdit cX11_beginEdit 1 (some (.object "PredictiveGrammar$Rules")) :: jtb) ({ frames := 3, cells := 0, slots := 0, locals := 82 } : Room) [.ref h_] [(h_, .inr (11, [.ref h_rules, .ref h_history, .ref h_sets, .ref h_setsBefore, g_table, g_failure, g_input, g_parser, g_examples, g_repairer])), (h_rules, .inr (6, [.ref h_rules_codes, .int c_rules_count])), (h_rules_codes, .inl (tc.1, 24, .inl c_rules_codes)), (h_history, .inr (2, [.ref h_history_saved, .int c_history_newest, .int c_history_size])), (h_history_saved, .inl (tc.2.2, 10, .inr (.inr (.inr (.inr fun j => some (hR_history_saved j)))))), ((hR_history_saved 0), .inr (6, [.ref (hC_history_saved 0), .int (c_history_saved_count 0)])), ((hC_history_saved 0), .inl (tc.1, 24, .inl (c_history_saved_codes 0))), ((hR_history_saved 1), .inr (6, [.ref (hC_history_saved 1), .int (c_history_saved_count 1)])), ((hC_history_saved 1), .inl (tc.1, 24, .inl (c_history_saved_codes 1))), ((hR_history_saved 2), .inr (6, [.ref (hC_history_saved 2), .int (c_history_saved_count 2)])), ((hC_history_saved 2), .inl (tc.1, 24, .inl (c_history_saved_codes 2))), ((hR_history_saved 3), .inr (6, [.ref (hC_history_saved 3), .int (c_history_saved_count 3)])), ((hC_history_saved 3), .inl (tc.1, 24, .inl (c_history_saved_codes 3))), ((hR_history_saved 4), .inr (6, [.ref (hC_history_saved 4), .int (c_history_saved_count 4)])), ((hC_history_saved 4), .inl (tc.1, 24, .inl (c_history_saved_codes 4))), ((hR_history_saved 5), .inr (6, [.ref (hC_history_saved 5), .int (c_history_saved_count 5)])), ((hC_history_saved 5), .inl (tc.1, 24, .inl (c_history_saved_codes 5))), ((hR_history_saved 6), .inr (6, [.ref (hC_history_saved 6), .int (c_history_saved_count 6)])), ((hC_history_saved 6), .inl (tc.1, 24, .inl (c_history_saved_codes 6))), ((hR_history_saved 7), .inr (6, [.ref (hC_history_saved 7), .int (c_history_saved_count 7)])), ((hC_history_saved 7), .inl (tc.1, 24, .inl (c_history_saved_codes 7))), ((hR_history_saved 8), .inr (6, [.ref (hC_history_saved 8), .int (c_history_saved_count 8)])), ((hC_history_saved 8), .inl (tc.1, 24, .inl (c_history_saved_codes 8))), ((hR_history_saved 9), .inr (6, [.ref (hC_history_saved 9), .int (c_history_saved_count 9)])), ((hC_history_saved 9), .inl (tc.1, 24, .inl (c_history_saved_codes 9))), (h_sets, .inr (7, [.int c_sets_nullable, .ref h_sets_first, .ref h_sets_follow, g_sets_begins])), (h_sets_first, .inl (tc.1, 8, .inl c_sets_first)), (h_sets_follow, .inl (tc.1, 8, .inl c_sets_follow)), (h_setsBefore, .inr (7, [.int c_setsBefore_nullable, .ref h_setsBefore_first, .ref h_setsBefore_follow, g_setsBefore_begins])), (h_setsBefore_first, .inl (tc.1, 8, .inl c_setsBefore_first)), (h_setsBefore_follow, .inl (tc.1, 8, .inl c_setsBefore_follow))] hR_history_saved (fX11_beginEdit c_rules_codes c_rules_count c_history_saved_codes c_history_saved_count c_history_newest c_history_size c_sets_nullable c_sets_first c_sets_follow c_setsBefore_nullable c_setsBefore_first c_setsBefore_follow) (fun (u : (Nat → Nat → Int32) × (Nat → Int32) × Int32 × Int32 × Int32 × (Nat → Int32) × (Nat → Int32)) => [(h_, .inr (11, [.ref h_rules, .ref h_history, .ref h_sets, .ref h_setsBefore, g_table, g_failure, g_input, g_parser, g_examples, g_repairer])), (h_rules, .inr (6, [.ref h_rules_codes, .int c_rules_count])), (h_rules_codes, .inl (tc.1, 24, .inl c_rules_codes)), (h_history, .inr (2, [.ref h_history_saved, .int u.2.2.1, .int u.2.2.2.1])), (h_history_saved, .inl (tc.2.2, 10, .inr (.inr (.inr (.inr fun j => some (hR_history_saved j)))))), ((hR_history_saved 0), .inr (6, [.ref (hC_history_saved 0), .int (u.2.1 0)])), ((hC_history_saved 0), .inl (tc.1, 24, .inl (u.1 0))), ((hR_history_saved 1), .inr (6, [.ref (hC_history_saved 1), .int (u.2.1 1)])), ((hC_history_saved 1), .inl (tc.1, 24, .inl (u.1 1))), ((hR_history_saved 2), .inr (6, [.ref (hC_history_saved 2), .int (u.2.1 2)])), ((hC_history_saved 2), .inl (tc.1, 24, .inl (u.1 2))), ((hR_history_saved 3), .inr (6, [.ref (hC_history_saved 3), .int (u.2.1 3)])), ((hC_history_saved 3), .inl (tc.1, 24, .inl (u.1 3))), ((hR_history_saved 4), .inr (6, [.ref (hC_history_saved 4), .int (u.2.1 4)])), ((hC_history_saved 4), .inl (tc.1, 24, .inl (u.1 4))), ((hR_history_saved 5), .inr (6, [.ref (hC_history_saved 5), .int (u.2.1 5)])), ((hC_history_saved 5), .inl (tc.1, 24, .inl (u.1 5))), ((hR_history_saved 6), .inr (6, [.ref (hC_history_saved 6), .int (u.2.1 6)])), ((hC_history_saved 6), .inl (tc.1, 24, .inl (u.1 6))), ((hR_history_saved 7), .inr (6, [.ref (hC_history_saved 7), .int (u.2.1 7)])), ((hC_history_saved 7), .inl (tc.1, 24, .inl (u.1 7))), ((hR_history_saved 8), .inr (6, [.ref (hC_history_saved 8), .int (u.2.1 8)])), ((hC_history_saved 8), .inl (tc.1, 24, .inl (u.1 8))), ((hR_history_saved 9), .inr (6, [.ref (hC_history_saved 9), .int (u.2.1 9)])), ((hC_history_saved 9), .inl (tc.1, 24, .inl (u.1 9))), (h_sets, .inr (7, [.int c_sets_nullable, .ref h_sets_first, .ref h_sets_follow, g_sets_begins])), (h_sets_first, .inl (tc.1, 8, .inl c_sets_first)), (h_sets_follow, .inl (tc.1, 8, .inl c_sets_follow)), (h_setsBefore, .inr (7, [.int u.2.2.2.2.1, .ref h_setsBefore_first, .ref h_setsBefore_follow, g_setsBefore_begins])), (h_setsBefore_first, .inl (tc.1, 8, .inl u.2.2.2.2.2.1)), (h_setsBefore_follow, .inl (tc.1, 8, .inl u.2.2.2.2.2.2))]) := by
  refine ctR_of (lv0 := [(0, .ref h_)]) (by decide +kernel) (Nat.le_of_ble_eq_true rfl) rfl (fun X C => ?_)
  unfold fX11_beginEdit
  refine j_aload C d11_beginEdit_0 0 rfl ?_
  refine j_get C d11_beginEdit_1 fl11_30 0 rfl rfl ?_
  refine j_aload C d11_beginEdit_4 0 rfl ?_
  refine j_get C d11_beginEdit_5 fl11_26 0 rfl rfl ?_
  refine j_callVV3 (As := [.ref h_sets]) C d11_beginEdit_8 mv11_86 (kX7_become _ _ tc h_setsBefore h_setsBefore_first h_setsBefore_follow h_sets h_sets_first h_sets_follow g_setsBefore_begins g_sets_begins c_setsBefore_nullable c_setsBefore_first c_setsBefore_follow c_sets_nullable c_sets_first c_sets_follow) ⟨rfl, rfl, Nat.le_of_ble_eq_true rfl, Nat.le_of_ble_eq_true rfl⟩ rfl 28 rfl [28, 29, 30, 25, 26, 27] rfl rfl rfl (Nat.le_of_ble_eq_true rfl) (fun o1 o2 o3 => [(h_, .inr (11, [.ref h_rules, .ref h_history, .ref h_sets, .ref h_setsBefore, g_table, g_failure, g_input, g_parser, g_examples, g_repairer])), (h_rules, .inr (6, [.ref h_rules_codes, .int c_rules_count])), (h_rules_codes, .inl (tc.1, 24, .inl c_rules_codes)), (h_history, .inr (2, [.ref h_history_saved, .int c_history_newest, .int c_history_size])), (h_history_saved, .inl (tc.2.2, 10, .inr (.inr (.inr (.inr fun j => some (hR_history_saved j)))))), ((hR_history_saved 0), .inr (6, [.ref (hC_history_saved 0), .int (c_history_saved_count 0)])), ((hC_history_saved 0), .inl (tc.1, 24, .inl (c_history_saved_codes 0))), ((hR_history_saved 1), .inr (6, [.ref (hC_history_saved 1), .int (c_history_saved_count 1)])), ((hC_history_saved 1), .inl (tc.1, 24, .inl (c_history_saved_codes 1))), ((hR_history_saved 2), .inr (6, [.ref (hC_history_saved 2), .int (c_history_saved_count 2)])), ((hC_history_saved 2), .inl (tc.1, 24, .inl (c_history_saved_codes 2))), ((hR_history_saved 3), .inr (6, [.ref (hC_history_saved 3), .int (c_history_saved_count 3)])), ((hC_history_saved 3), .inl (tc.1, 24, .inl (c_history_saved_codes 3))), ((hR_history_saved 4), .inr (6, [.ref (hC_history_saved 4), .int (c_history_saved_count 4)])), ((hC_history_saved 4), .inl (tc.1, 24, .inl (c_history_saved_codes 4))), ((hR_history_saved 5), .inr (6, [.ref (hC_history_saved 5), .int (c_history_saved_count 5)])), ((hC_history_saved 5), .inl (tc.1, 24, .inl (c_history_saved_codes 5))), ((hR_history_saved 6), .inr (6, [.ref (hC_history_saved 6), .int (c_history_saved_count 6)])), ((hC_history_saved 6), .inl (tc.1, 24, .inl (c_history_saved_codes 6))), ((hR_history_saved 7), .inr (6, [.ref (hC_history_saved 7), .int (c_history_saved_count 7)])), ((hC_history_saved 7), .inl (tc.1, 24, .inl (c_history_saved_codes 7))), ((hR_history_saved 8), .inr (6, [.ref (hC_history_saved 8), .int (c_history_saved_count 8)])), ((hC_history_saved 8), .inl (tc.1, 24, .inl (c_history_saved_codes 8))), ((hR_history_saved 9), .inr (6, [.ref (hC_history_saved 9), .int (c_history_saved_count 9)])), ((hC_history_saved 9), .inl (tc.1, 24, .inl (c_history_saved_codes 9))), (h_sets, .inr (7, [.int c_sets_nullable, .ref h_sets_first, .ref h_sets_follow, g_sets_begins])), (h_sets_first, .inl (tc.1, 8, .inl c_sets_first)), (h_sets_follow, .inl (tc.1, 8, .inl c_sets_follow)), (h_setsBefore, .inr (7, [.int o1, .ref h_setsBefore_first, .ref h_setsBefore_follow, g_setsBefore_begins])), (h_setsBefore_first, .inl (tc.1, 8, .inl o2)), (h_setsBefore_follow, .inl (tc.1, 8, .inl o3))]) [(false, 0), (false, 1), (false, 2), (false, 3), (false, 4), (false, 5), (false, 6), (false, 7), (false, 8), (false, 9), (false, 10), (false, 11), (false, 12), (false, 13), (false, 14), (false, 15), (false, 16), (false, 17), (false, 18), (false, 19), (false, 20), (false, 21), (false, 22), (false, 23), (false, 24), (true, 3), (true, 4), (true, 5), (true, 0), (true, 1), (true, 2)] (fun _ => rfl) (by decide +kernel) (fun o1 o2 o3 => ?_)
  refine j_aload C d11_beginEdit_11 0 rfl ?_
  refine j_get C d11_beginEdit_12 fl11_19 0 rfl rfl ?_
  refine j_aload C d11_beginEdit_15 0 rfl ?_
  refine j_get C d11_beginEdit_16 fl11_12 0 rfl rfl ?_
  refine j_callVR5 (As := [.ref h_rules]) C d11_beginEdit_19 mv11_311 (kX2_save _ _ tc h_history h_history_saved h_rules h_rules_codes hR_history_saved hC_history_saved c_history_saved_codes c_history_saved_count c_history_newest c_history_size c_rules_codes c_rules_count) ⟨rfl, rfl, Nat.le_of_ble_eq_true rfl, Nat.le_of_ble_eq_true rfl⟩ rfl 3 rfl [3, 4, 5, 6, 7, 8, 9, 10, 11, 12, 13, 14, 15, 16, 17, 18, 19, 20, 21, 22, 23, 24, 1, 2] rfl rfl rfl (Nat.le_of_ble_eq_true rfl) (fun o4 o5 o6 o7 => [(h_, .inr (11, [.ref h_rules, .ref h_history, .ref h_sets, .ref h_setsBefore, g_table, g_failure, g_input, g_parser, g_examples, g_repairer])), (h_rules, .inr (6, [.ref h_rules_codes, .int c_rules_count])), (h_rules_codes, .inl (tc.1, 24, .inl c_rules_codes)), (h_history, .inr (2, [.ref h_history_saved, .int o6, .int o7])), (h_history_saved, .inl (tc.2.2, 10, .inr (.inr (.inr (.inr fun j => some (hR_history_saved j)))))), ((hR_history_saved 0), .inr (6, [.ref (hC_history_saved 0), .int (o5 0)])), ((hC_history_saved 0), .inl (tc.1, 24, .inl (o4 0))), ((hR_history_saved 1), .inr (6, [.ref (hC_history_saved 1), .int (o5 1)])), ((hC_history_saved 1), .inl (tc.1, 24, .inl (o4 1))), ((hR_history_saved 2), .inr (6, [.ref (hC_history_saved 2), .int (o5 2)])), ((hC_history_saved 2), .inl (tc.1, 24, .inl (o4 2))), ((hR_history_saved 3), .inr (6, [.ref (hC_history_saved 3), .int (o5 3)])), ((hC_history_saved 3), .inl (tc.1, 24, .inl (o4 3))), ((hR_history_saved 4), .inr (6, [.ref (hC_history_saved 4), .int (o5 4)])), ((hC_history_saved 4), .inl (tc.1, 24, .inl (o4 4))), ((hR_history_saved 5), .inr (6, [.ref (hC_history_saved 5), .int (o5 5)])), ((hC_history_saved 5), .inl (tc.1, 24, .inl (o4 5))), ((hR_history_saved 6), .inr (6, [.ref (hC_history_saved 6), .int (o5 6)])), ((hC_history_saved 6), .inl (tc.1, 24, .inl (o4 6))), ((hR_history_saved 7), .inr (6, [.ref (hC_history_saved 7), .int (o5 7)])), ((hC_history_saved 7), .inl (tc.1, 24, .inl (o4 7))), ((hR_history_saved 8), .inr (6, [.ref (hC_history_saved 8), .int (o5 8)])), ((hC_history_saved 8), .inl (tc.1, 24, .inl (o4 8))), ((hR_history_saved 9), .inr (6, [.ref (hC_history_saved 9), .int (o5 9)])), ((hC_history_saved 9), .inl (tc.1, 24, .inl (o4 9))), (h_sets, .inr (7, [.int c_sets_nullable, .ref h_sets_first, .ref h_sets_follow, g_sets_begins])), (h_sets_first, .inl (tc.1, 8, .inl c_sets_first)), (h_sets_follow, .inl (tc.1, 8, .inl c_sets_follow)), (h_setsBefore, .inr (7, [.int o1, .ref h_setsBefore_first, .ref h_setsBefore_follow, g_setsBefore_begins])), (h_setsBefore_first, .inl (tc.1, 8, .inl o2)), (h_setsBefore_follow, .inl (tc.1, 8, .inl o3))]) [(false, 0), (true, 22), (true, 23), (true, 0), (true, 1), (true, 2), (true, 3), (true, 4), (true, 5), (true, 6), (true, 7), (true, 8), (true, 9), (true, 10), (true, 11), (true, 12), (true, 13), (true, 14), (true, 15), (true, 16), (true, 17), (true, 18), (true, 19), (true, 20), (true, 21), (false, 25), (false, 26), (false, 27), (false, 28), (false, 29), (false, 30)] (fun _ => rfl) (by decide +kernel) (fun o8 o4 o5 o6 o7 => ?_)
  exact j_aret C d11_beginEdit_22 rfl

theorem d11_endChange_0 : jda cX11_endChange 0 0 1 := Or.inl ⟨0, by decide +kernel⟩
theorem d11_endChange_1 : jd cX11_endChange 1 (.getfield 26) 3 4 := by decide +kernel
theorem d11_endChange_4 : jda cX11_endChange 4 0 5 := Or.inl ⟨0, by decide +kernel⟩
theorem d11_endChange_5 : jd cX11_endChange 5 (.getfield 12) 3 8 := by decide +kernel
theorem d11_endChange_8 : jd cX11_endChange 8 (.invokevirtual 83) 3 11 := by decide +kernel
theorem d11_endChange_11 : jda cX11_endChange 11 0 12 := Or.inl ⟨0, by decide +kernel⟩
theorem d11_endChange_12 : jd cX11_endChange 12 (.getfield 38) 3 15 := by decide +kernel
theorem d11_endChange_15 : jd cX11_endChange 15 (.invokevirtual 315) 3 18 := by decide +kernel
theorem d11_endChange_18 : jda cX11_endChange 18 0 19 := Or.inl ⟨0, by decide +kernel⟩
theorem d11_endChange_19 : jd cX11_endChange 19 (.getfield 70) 3 22 := by decide +kernel
theorem d11_endChange_22 : jd cX11_endChange 22 (.invokevirtual 317) 3 25 := by decide +kernel
theorem d11_endChange_25 : decode cX11_endChange 25 = .ok (.return_, 1) := by decide +kernel
set_option maxHeartbeats 4000000 in
set_option maxRecDepth 100000 in
theorem kX11_endChange (l : Launch) (D : va_G) (tc : jTC) (N : Nat) (h_ h_rules h_rules_codes h_sets h_sets_first h_sets_follow h_table h_table_select h_table_possible h_table_lowest h_examples : Nat) (g_history g_setsBefore g_failure g_input g_parser g_repairer g_sets_begins g_examples_words : Value) (c_rules_codes : (Nat → Int32)) (c_rules_count : Int32) (c_sets_nullable : Int32) (c_sets_first : (Nat → Int32)) (c_sets_follow : (Nat → Int32)) (c_table_select : (Nat → Int32)) (c_table_possible : (Nat → Int32)) (c_table_lowest : (Nat → Int32)) (c_table_conflicts : Int32) (c_examples_plainKnown : Int32) (c_examples_exampleKey : Int32) : ctV l D tc yX11_endChange (Cond.code yX11_endChange cX11_endChange 1 none :: jtb) ({ frames := 5, cells := 0, slots := 0, locals := 114 } : Room) [.ref h_] [(h_, .inr (11, [.ref h_rules, g_history, .ref h_sets, g_setsBefore, .ref h_table, g_failure, g_input, g_parser, .ref h_examples, g_repairer])), (h_rules, .inr (6, [.ref h_rules_codes, .int c_rules_count])), (h_rules_codes, .inl (tc.1, 24, .inl c_rules_codes)), (h_sets, .inr (7, [.int c_sets_nullable, .ref h_sets_first, .ref h_sets_follow, g_sets_begins])), (h_sets_first, .inl (tc.1, 8, .inl c_sets_first)), (h_sets_follow, .inl (tc.1, 8, .inl c_sets_follow)), (h_table, .inr (8, [.ref h_rules, .ref h_sets, .ref h_table_select, .ref h_table_possible, .ref h_table_lowest, .int c_table_conflicts])), (h_table_select, .inl (tc.1, 24, .inl c_table_select)), (h_table_possible, .inl (tc.1, 72, .inl c_table_possible)), (h_table_lowest, .inl (tc.1, 72, .inl c_table_lowest)), (h_examples, .inr (0, [.ref h_rules, g_examples_words, .int c_examples_plainKnown, .int c_examples_exampleKey]))] (fX11_endChange N c_rules_codes c_rules_count c_sets_nullable c_sets_first c_sets_follow c_table_select c_table_possible c_table_lowest c_table_conflicts c_examples_plainKnown c_examples_exampleKey) (fun (u : Int32 × (Nat → Int32) × (Nat → Int32) × (Nat → Int32) × (Nat → Int32) × (Nat → Int32) × Int32 × Int32 × Int32) => [(h_, .inr (11, [.ref h_rules, g_history, .ref h_sets, g_setsBefore, .ref h_table, g_failure, g_input, g_parser, .ref h_examples, g_repairer])), (h_rules, .inr (6, [.ref h_rules_codes, .int c_rules_count])), (h_rules_codes, .inl (tc.1, 24, .inl c_rules_codes)), (h_sets, .inr (7, [.int u.1, .ref h_sets_first, .ref h_sets_follow, g_sets_begins])), (h_sets_first, .inl (tc.1, 8, .inl u.2.1)), (h_sets_follow, .inl (tc.1, 8, .inl u.2.2.1)), (h_table, .inr (8, [.ref h_rules, .ref h_sets, .ref h_table_select, .ref h_table_possible, .ref h_table_lowest, .int u.2.2.2.2.2.2.1])), (h_table_select, .inl (tc.1, 24, .inl u.2.2.2.1)), (h_table_possible, .inl (tc.1, 72, .inl u.2.2.2.2.1)), (h_table_lowest, .inl (tc.1, 72, .inl u.2.2.2.2.2.1)), (h_examples, .inr (0, [.ref h_rules, g_examples_words, .int u.2.2.2.2.2.2.2.1, .int u.2.2.2.2.2.2.2.2]))]) := by
  refine ctV_of (lv0 := [(0, .ref h_)]) (by decide +kernel) (Nat.le_of_ble_eq_true rfl) rfl (fun X C => ?_)
  unfold fX11_endChange
  refine j_aload C d11_endChange_0 0 rfl ?_
  refine j_get C d11_endChange_1 fl11_26 0 rfl rfl ?_
  refine j_aload C d11_endChange_4 0 rfl ?_
  refine j_get C d11_endChange_5 fl11_12 0 rfl rfl ?_
  refine j_callVV3 (As := [.ref h_rules]) C d11_endChange_8 mv11_83 (kX7_compute _ _ tc N h_sets h_sets_first h_sets_follow h_rules h_rules_codes g_sets_begins c_sets_nullable c_sets_first c_sets_follow c_rules_codes c_rules_count) ⟨rfl, rfl, Nat.le_of_ble_eq_true rfl, Nat.le_of_ble_eq_true rfl⟩ rfl 3 rfl [3, 4, 5, 1, 2] rfl rfl rfl (Nat.le_of_ble_eq_true rfl) (fun o1 o2 o3 => [(h_, .inr (11, [.ref h_rules, g_history, .ref h_sets, g_setsBefore, .ref h_table, g_failure, g_input, g_parser, .ref h_examples, g_repairer])), (h_rules, .inr (6, [.ref h_rules_codes, .int c_rules_count])), (h_rules_codes, .inl (tc.1, 24, .inl c_rules_codes)), (h_sets, .inr (7, [.int o1, .ref h_sets_first, .ref h_sets_follow, g_sets_begins])), (h_sets_first, .inl (tc.1, 8, .inl o2)), (h_sets_follow, .inl (tc.1, 8, .inl o3)), (h_table, .inr (8, [.ref h_rules, .ref h_sets, .ref h_table_select, .ref h_table_possible, .ref h_table_lowest, .int c_table_conflicts])), (h_table_select, .inl (tc.1, 24, .inl c_table_select)), (h_table_possible, .inl (tc.1, 72, .inl c_table_possible)), (h_table_lowest, .inl (tc.1, 72, .inl c_table_lowest)), (h_examples, .inr (0, [.ref h_rules, g_examples_words, .int c_examples_plainKnown, .int c_examples_exampleKey]))]) [(false, 0), (true, 3), (true, 4), (true, 0), (true, 1), (true, 2), (false, 6), (false, 7), (false, 8), (false, 9), (false, 10)] (fun _ => rfl) (by decide +kernel) (fun o1 o2 o3 => ?_)
  refine j_aload C d11_endChange_11 0 rfl ?_
  refine j_get C d11_endChange_12 fl11_38 0 rfl rfl ?_
  refine j_callVV4 (As := []) C d11_endChange_15 mv11_315 (kX8_compute _ _ tc N h_table h_rules h_rules_codes h_sets h_sets_first h_sets_follow h_table_select h_table_possible h_table_lowest g_sets_begins c_rules_codes c_rules_count o1 o2 o3 c_table_select c_table_possible c_table_lowest c_table_conflicts) ⟨rfl, rfl, Nat.le_of_ble_eq_true rfl, Nat.le_of_ble_eq_true rfl⟩ rfl 6 rfl [6, 1, 2, 3, 4, 5, 7, 8, 9] rfl rfl rfl (Nat.le_of_ble_eq_true rfl) (fun o4 o5 o6 o7 => [(h_, .inr (11, [.ref h_rules, g_history, .ref h_sets, g_setsBefore, .ref h_table, g_failure, g_input, g_parser, .ref h_examples, g_repairer])), (h_rules, .inr (6, [.ref h_rules_codes, .int c_rules_count])), (h_rules_codes, .inl (tc.1, 24, .inl c_rules_codes)), (h_sets, .inr (7, [.int o1, .ref h_sets_first, .ref h_sets_follow, g_sets_begins])), (h_sets_first, .inl (tc.1, 8, .inl o2)), (h_sets_follow, .inl (tc.1, 8, .inl o3)), (h_table, .inr (8, [.ref h_rules, .ref h_sets, .ref h_table_select, .ref h_table_possible, .ref h_table_lowest, .int o7])), (h_table_select, .inl (tc.1, 24, .inl o4)), (h_table_possible, .inl (tc.1, 72, .inl o5)), (h_table_lowest, .inl (tc.1, 72, .inl o6)), (h_examples, .inr (0, [.ref h_rules, g_examples_words, .int c_examples_plainKnown, .int c_examples_exampleKey]))]) [(false, 0), (true, 1), (true, 2), (true, 3), (true, 4), (true, 5), (true, 0), (true, 6), (true, 7), (true, 8), (false, 10)] (fun _ => rfl) (by decide +kernel) (fun o4 o5 o6 o7 => ?_)
  refine j_aload C d11_endChange_18 0 rfl ?_
  refine j_get C d11_endChange_19 fl11_70 0 rfl rfl ?_
  refine j_callVV2 (As := []) C d11_endChange_22 mv11_317 (kX0_forget _ _ tc h_examples (.ref h_rules) g_examples_words c_examples_plainKnown c_examples_exampleKey) ⟨rfl, rfl, Nat.le_of_ble_eq_true rfl, Nat.le_of_ble_eq_true rfl⟩ rfl 10 rfl [10] rfl rfl rfl (Nat.le_of_ble_eq_true rfl) (fun o8 o9 => [(h_, .inr (11, [.ref h_rules, g_history, .ref h_sets, g_setsBefore, .ref h_table, g_failure, g_input, g_parser, .ref h_examples, g_repairer])), (h_rules, .inr (6, [.ref h_rules_codes, .int c_rules_count])), (h_rules_codes, .inl (tc.1, 24, .inl c_rules_codes)), (h_sets, .inr (7, [.int o1, .ref h_sets_first, .ref h_sets_follow, g_sets_begins])), (h_sets_first, .inl (tc.1, 8, .inl o2)), (h_sets_follow, .inl (tc.1, 8, .inl o3)), (h_table, .inr (8, [.ref h_rules, .ref h_sets, .ref h_table_select, .ref h_table_possible, .ref h_table_lowest, .int o7])), (h_table_select, .inl (tc.1, 24, .inl o4)), (h_table_possible, .inl (tc.1, 72, .inl o5)), (h_table_lowest, .inl (tc.1, 72, .inl o6)), (h_examples, .inr (0, [.ref h_rules, g_examples_words, .int o8, .int o9]))]) [(false, 0), (false, 1), (false, 2), (false, 3), (false, 4), (false, 5), (false, 6), (false, 7), (false, 8), (false, 9), (true, 0)] (fun _ => rfl) (by decide +kernel) (fun o8 o9 => ?_)
  exact j_vret C d11_endChange_25 rfl

