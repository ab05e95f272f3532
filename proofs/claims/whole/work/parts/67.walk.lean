theorem d7_firstOf_0 : jdi cX7_firstOf 0 1 1 := Or.inl ⟨1, by decide +kernel⟩
theorem d7_firstOf_1 : jdk cX7_firstOf 1 10 3 := Or.inr (Or.inl ⟨10, by decide +kernel⟩)
theorem d7_firstOf_3 : jdb cX7_firstOf 3 (.if_icmp .lt 15) 15 18 6 := by decide +kernel
theorem d7_firstOf_6 : jda cX7_firstOf 6 0 7 := Or.inl ⟨0, by decide +kernel⟩
theorem d7_firstOf_7 : jd cX7_firstOf 7 (.getfield 9) 3 10 := by decide +kernel
theorem d7_firstOf_10 : jdi cX7_firstOf 10 1 11 := Or.inl ⟨1, by decide +kernel⟩
theorem d7_firstOf_11 : jdk cX7_firstOf 11 10 13 := Or.inr (Or.inl ⟨10, by decide +kernel⟩)
theorem d7_firstOf_13 : jd cX7_firstOf 13 (.isub) 1 14 := by decide +kernel
theorem d7_firstOf_14 : jd cX7_firstOf 14 (.iaload) 1 15 := by decide +kernel
theorem d7_firstOf_15 : jdb cX7_firstOf 15 (.goto 6) 6 21 18 := by decide +kernel
theorem d7_firstOf_18 : jdk cX7_firstOf 18 1 19 := Or.inl ⟨1, by decide +kernel⟩
theorem d7_firstOf_19 : jdi cX7_firstOf 19 1 20 := Or.inl ⟨1, by decide +kernel⟩
theorem d7_firstOf_20 : jd cX7_firstOf 20 (.ishl) 1 21 := by decide +kernel
theorem d7_firstOf_21 : decode cX7_firstOf 21 = .ok (.ireturn, 1) := by decide +kernel
set_option maxHeartbeats 4000000 in
set_option maxRecDepth 100000 in
theorem kX7_firstOf (l : Launch) (D : va_G) (tc : jTC) (h_ h_first : Nat) (g_nullable g_follow g_begins : Value) (c_first : (Nat → Int32)) (p1 : Int32) : ctI0 l D tc yX7_firstOf (Cond.code yX7_firstOf cX7_firstOf 2 (some .int) :: jtb) ({ frames := 0, cells := 0, slots := 0, locals := 0 } : Room) [.ref h_, .int p1] [(h_, .inr (7, [g_nullable, .ref h_first, g_follow, g_begins])), (h_first, .inl (tc.1, 8, .inl c_first))] (fX7_firstOf c_first p1) := by
  refine ctI0_of (lv0 := [(0, .ref h_), (1, .int p1)]) (by decide +kernel) (Nat.le_of_ble_eq_true rfl) rfl (fun X C => ?_)
  unfold fX7_firstOf
  refine j_iload C d7_firstOf_0 1 rfl ?_
  refine j_const C d7_firstOf_1 ?_
  refine j_join 21 (fun v1 => [(h_, .inr (7, [g_nullable, .ref h_first, g_follow, g_begins])), (h_first, .inl (tc.1, 8, .inl c_first))]) (fun v1 => []) (fun v1 => [.int v1]) (fun v1 => ?_) (fun k2 hk2 => ?_)
  · exact j_iret0 C d7_firstOf_21
  · refine j_icmp_lt C d7_firstOf_3 ?_ ?_
    · refine j_const C d7_firstOf_18 ?_
      refine j_iload C d7_firstOf_19 1 rfl ?_
      refine j_ishl C d7_firstOf_20 ?_
      exact j_sub [] rfl (hk2 _)
    · refine j_aload C d7_firstOf_6 0 rfl ?_
      refine j_get C d7_firstOf_7 fl7_9 0 rfl rfl ?_
      refine j_iload C d7_firstOf_10 1 rfl ?_
      refine j_const C d7_firstOf_11 ?_
      refine j_isub C d7_firstOf_13 ?_
      refine j_iald C d7_firstOf_14 1 rfl (fun x3 => ?_)
      refine j_goto C d7_firstOf_15 ?_
      exact j_sub [] rfl (hk2 _)

theorem d7_firstFrom_0 : jdk cX7_firstFrom 0 0 1 := Or.inl ⟨0, by decide +kernel⟩
theorem d7_firstFrom_1 : jds cX7_firstFrom 1 3 2 := Or.inl ⟨3, by decide +kernel⟩
theorem d7_firstFrom_2 : jdi cX7_firstFrom 2 2 3 := Or.inl ⟨2, by decide +kernel⟩
theorem d7_firstFrom_3 : jds cX7_firstFrom 3 4 5 := Or.inr (by decide +kernel)
theorem d7_firstFrom_5 : jdi cX7_firstFrom 5 4 7 := Or.inr (by decide +kernel)
theorem d7_firstFrom_7 : jdi cX7_firstFrom 7 1 8 := Or.inl ⟨1, by decide +kernel⟩
theorem d7_firstFrom_8 : jd cX7_firstFrom 8 (.invokestatic 68) 3 11 := by decide +kernel
theorem d7_firstFrom_11 : jdb cX7_firstFrom 11 (.if_icmp .ge 37) 37 48 14 := by decide +kernel
theorem d7_firstFrom_14 : jdi cX7_firstFrom 14 3 15 := Or.inl ⟨3, by decide +kernel⟩
theorem d7_firstFrom_15 : jda cX7_firstFrom 15 0 16 := Or.inl ⟨0, by decide +kernel⟩
theorem d7_firstFrom_16 : jdi cX7_firstFrom 16 1 17 := Or.inl ⟨1, by decide +kernel⟩
theorem d7_firstFrom_17 : jdi cX7_firstFrom 17 4 19 := Or.inr (by decide +kernel)
theorem d7_firstFrom_19 : jd cX7_firstFrom 19 (.invokestatic 71) 3 22 := by decide +kernel
theorem d7_firstFrom_22 : jd cX7_firstFrom 22 (.invokevirtual 77) 3 25 := by decide +kernel
theorem d7_firstFrom_25 : jd cX7_firstFrom 25 (.ior) 1 26 := by decide +kernel
theorem d7_firstFrom_26 : jds cX7_firstFrom 26 3 27 := Or.inl ⟨3, by decide +kernel⟩
theorem d7_firstFrom_27 : jda cX7_firstFrom 27 0 28 := Or.inl ⟨0, by decide +kernel⟩
theorem d7_firstFrom_28 : jdi cX7_firstFrom 28 1 29 := Or.inl ⟨1, by decide +kernel⟩
theorem d7_firstFrom_29 : jdi cX7_firstFrom 29 4 31 := Or.inr (by decide +kernel)
theorem d7_firstFrom_31 : jd cX7_firstFrom 31 (.invokestatic 71) 3 34 := by decide +kernel
theorem d7_firstFrom_34 : jd cX7_firstFrom 34 (.invokevirtual 74) 3 37 := by decide +kernel
theorem d7_firstFrom_37 : jdb cX7_firstFrom 37 (.ifCond .ne 5) 5 42 40 := by decide +kernel
theorem d7_firstFrom_40 : jdi cX7_firstFrom 40 3 41 := Or.inl ⟨3, by decide +kernel⟩
theorem d7_firstFrom_41 : decode cX7_firstFrom 41 = .ok (.ireturn, 1) := by decide +kernel
theorem d7_firstFrom_42 : jd cX7_firstFrom 42 (.iinc 4 1) 3 45 := by decide +kernel
theorem d7_firstFrom_45 : jdb cX7_firstFrom 45 (.goto (-40)) (-40) 5 48 := by decide +kernel
theorem d7_firstFrom_48 : jdi cX7_firstFrom 48 3 49 := Or.inl ⟨3, by decide +kernel⟩
theorem d7_firstFrom_49 : decode cX7_firstFrom 49 = .ok (.ireturn, 1) := by decide +kernel
set_option maxHeartbeats 4000000 in
set_option maxRecDepth 100000 in
theorem wX7_firstFrom_5 {X : jC} {tc : jTC} (C : jx X cX7_firstFrom 5 RX7 (some .int) tc ({ frames := 2, cells := 0, slots := 0, locals := 42 } : Room)) (h_ h_first : Nat) (g_follow g_begins : Value) (p1 : Int32) (c_nullable : Int32) (c_first : (Nat → Int32)) (k2 : (Int32 → Option (Int32))) (hk2 : ∀ (v13 : Int32), jo X 5 (0, 0) (jQI0 X [(h_, .inr (7, [.int c_nullable, .ref h_first, g_follow, g_begins])), (h_first, .inl (tc.1, 8, .inl c_first))]) (k2 v13) [(h_, .inr (7, [.int c_nullable, .ref h_first, g_follow, g_begins])), (h_first, .inl (tc.1, 8, .inl c_first))] 48 [(3, .int v13)] []) (rc5 : Int32 → Int32 → Option (Int32)) (hrc5 : ∀ (v3 : Int32) (v4 : Int32), jo X 5 (0, 0) (jQI0 X [(h_, .inr (7, [.int c_nullable, .ref h_first, g_follow, g_begins])), (h_first, .inl (tc.1, 8, .inl c_first))]) (rc5 v3 v4) [(h_, .inr (7, [.int c_nullable, .ref h_first, g_follow, g_begins])), (h_first, .inl (tc.1, 8, .inl c_first))] 5 [(0, .ref h_), (1, .int p1), (3, .int v3), (4, .int v4)] []) (v3 : Int32) (v4 : Int32) : jo X 5 (0, 0) (jQI0 X [(h_, .inr (7, [.int c_nullable, .ref h_first, g_follow, g_begins])), (h_first, .inl (tc.1, 8, .inl c_first))]) (bX7_firstFrom_5 p1 c_nullable c_first k2 rc5 v3 v4) [(h_, .inr (7, [.int c_nullable, .ref h_first, g_follow, g_begins])), (h_first, .inl (tc.1, 8, .inl c_first))] 5 [(0, .ref h_), (1, .int p1), (3, .int v3), (4, .int v4)] [] := by
  unfold bX7_firstFrom_5
  refine j_iload C d7_firstFrom_5 3 rfl ?_
  refine j_iload C d7_firstFrom_7 1 rfl ?_
  refine j_callSI0 (As := [.int p1]) C d7_firstFrom_8 ms7_68 (kX6_lengthOf _ _ tc p1) ⟨rfl, rfl, Nat.le_of_ble_eq_true rfl, Nat.le_of_ble_eq_true rfl⟩ rfl [] rfl rfl rfl (Nat.le_of_ble_eq_true rfl) (fun x6 => ?_)
  refine j_icmp_ge C d7_firstFrom_11 ?_ ?_
  · exact j_sub [2] rfl (hk2 _)
  · refine j_iload C d7_firstFrom_14 2 rfl ?_
    refine j_aload C d7_firstFrom_15 0 rfl ?_
    refine j_iload C d7_firstFrom_16 1 rfl ?_
    refine j_iload C d7_firstFrom_17 3 rfl ?_
    refine j_callSI0 (As := [.int p1, .int v4]) C d7_firstFrom_19 ms7_71 (kX6_symbolOf _ _ tc p1 v4) ⟨rfl, rfl, Nat.le_of_ble_eq_true rfl, Nat.le_of_ble_eq_true rfl⟩ rfl [] rfl rfl rfl (Nat.le_of_ble_eq_true rfl) (fun x7 => ?_)
    refine j_callVI0 (As := [.int x7]) C d7_firstFrom_22 mv7_77 (kX7_firstOf _ _ tc h_ h_first (.int c_nullable) g_follow g_begins c_first x7) ⟨rfl, rfl, Nat.le_of_ble_eq_true rfl, Nat.le_of_ble_eq_true rfl⟩ rfl 0 rfl [0, 1] rfl rfl rfl (Nat.le_of_ble_eq_true rfl) (fun x8 => ?_)
    refine j_ior C d7_firstFrom_25 ?_
    refine j_leti (fun x9 => ?_)
    refine j_istore C d7_firstFrom_26 (by decide) (lv' := [(3, .int x9), (0, .ref h_), (1, .int p1), (4, .int v4)]) rfl ?_
    refine j_aload C d7_firstFrom_27 1 rfl ?_
    refine j_iload C d7_firstFrom_28 2 rfl ?_
    refine j_iload C d7_firstFrom_29 3 rfl ?_
    refine j_callSI0 (As := [.int p1, .int v4]) C d7_firstFrom_31 ms7_71 (kX6_symbolOf _ _ tc p1 v4) ⟨rfl, rfl, Nat.le_of_ble_eq_true rfl, Nat.le_of_ble_eq_true rfl⟩ rfl [] rfl rfl rfl (Nat.le_of_ble_eq_true rfl) (fun x10 => ?_)
    refine j_callVI0 (As := [.int x10]) C d7_firstFrom_34 mv7_74 (kX7_isNullable _ _ tc h_ (.ref h_first) g_follow g_begins c_nullable x10) ⟨rfl, rfl, Nat.le_of_ble_eq_true rfl, Nat.le_of_ble_eq_true rfl⟩ rfl 0 rfl [0] rfl rfl rfl (Nat.le_of_ble_eq_true rfl) (fun x11 => ?_)
    refine j_if_ne C d7_firstFrom_37 ?_ ?_
    · refine j_iincN C (fun x12 => [(4, .int x12), (3, .int x9), (0, .ref h_), (1, .int p1)]) d7_firstFrom_42 3 rfl (by decide +kernel) (by decide) (fun _ => rfl) (fun x12 => ?_)
      refine j_goto C d7_firstFrom_45 ?_
      exact j_sub [2, 3, 1, 0] rfl (hrc5 _ _)
    · refine j_iload C d7_firstFrom_40 0 rfl ?_
      exact j_iret0 C d7_firstFrom_41

set_option maxHeartbeats 4000000 in
set_option maxRecDepth 100000 in
theorem kX7_firstFrom (l : Launch) (D : va_G) (tc : jTC) (N : Nat) (h_ h_first : Nat) (g_follow g_begins : Value) (c_nullable : Int32) (c_first : (Nat → Int32)) (p1 : Int32) (p2 : Int32) : ctI0 l D tc yX7_firstFrom (Cond.code yX7_firstFrom cX7_firstFrom 5 (some .int) :: jtb) ({ frames := 2, cells := 0, slots := 0, locals := 42 } : Room) [.ref h_, .int p1, .int p2] [(h_, .inr (7, [.int c_nullable, .ref h_first, g_follow, g_begins])), (h_first, .inl (tc.1, 8, .inl c_first))] (fX7_firstFrom N c_nullable c_first p1 p2) := by
  refine ctI0_of (lv0 := [(0, .ref h_), (1, .int p1), (2, .int p2)]) (by decide +kernel) (Nat.le_of_ble_eq_true rfl) rfl (fun X C => ?_)
  unfold fX7_firstFrom
  refine j_const C d7_firstFrom_0 ?_
  refine j_istore C d7_firstFrom_1 (by decide) (lv' := [(3, .int 0), (0, .ref h_), (1, .int p1), (2, .int p2)]) rfl ?_
  refine j_iload C d7_firstFrom_2 3 rfl ?_
  refine j_istore C d7_firstFrom_3 (by decide) (lv' := [(4, .int p2), (3, .int 0), (0, .ref h_), (1, .int p1), (2, .int p2)]) rfl ?_
  refine j_join 48 (fun v1 => [(h_, .inr (7, [.int c_nullable, .ref h_first, g_follow, g_begins])), (h_first, .inl (tc.1, 8, .inl c_first))]) (fun v1 => [(3, .int v1)]) (fun v1 => []) (fun v1 => ?_) (fun k2 hk2 => ?_)
  · refine j_iload C d7_firstFrom_48 0 rfl ?_
    exact j_iret0 C d7_firstFrom_49
  · exact j_sub [2, 3, 1, 0] rfl (j_loop2 (fun v3 v4 => [(h_, .inr (7, [.int c_nullable, .ref h_first, g_follow, g_begins])), (h_first, .inl (tc.1, 8, .inl c_first))]) (fun v3 v4 => [(0, .ref h_), (1, .int p1), (3, .int v3), (4, .int v4)]) (fun rc5 hrc5 v3 v4 => wX7_firstFrom_5 C h_ h_first g_follow g_begins p1 c_nullable c_first k2 hk2 rc5 hrc5 v3 v4) N _ _)

theorem d7_computeFirst_0 : jdk cX7_computeFirst 0 1 1 := Or.inl ⟨1, by decide +kernel⟩
theorem d7_computeFirst_1 : jds cX7_computeFirst 1 2 2 := Or.inl ⟨2, by decide +kernel⟩
theorem d7_computeFirst_2 : jdk cX7_computeFirst 2 0 3 := Or.inl ⟨0, by decide +kernel⟩
theorem d7_computeFirst_3 : jds cX7_computeFirst 3 3 4 := Or.inl ⟨3, by decide +kernel⟩
theorem d7_computeFirst_4 : jdi cX7_computeFirst 4 3 5 := Or.inl ⟨3, by decide +kernel⟩
theorem d7_computeFirst_5 : jdk cX7_computeFirst 5 1000 8 := Or.inr (Or.inr ⟨1000, by decide +kernel⟩)
theorem d7_computeFirst_8 : jdb cX7_computeFirst 8 (.if_icmp .ge 98) 98 106 11 := by decide +kernel
theorem d7_computeFirst_11 : jdi cX7_computeFirst 11 2 12 := Or.inl ⟨2, by decide +kernel⟩
theorem d7_computeFirst_12 : jdb cX7_computeFirst 12 (.ifCond .eq 94) 94 106 15 := by decide +kernel
theorem d7_computeFirst_15 : jdk cX7_computeFirst 15 0 16 := Or.inl ⟨0, by decide +kernel⟩
theorem d7_computeFirst_16 : jds cX7_computeFirst 16 2 17 := Or.inl ⟨2, by decide +kernel⟩
theorem d7_computeFirst_17 : jdk cX7_computeFirst 17 0 18 := Or.inl ⟨0, by decide +kernel⟩
theorem d7_computeFirst_18 : jds cX7_computeFirst 18 4 20 := Or.inr (by decide +kernel)
theorem d7_computeFirst_20 : jdi cX7_computeFirst 20 4 22 := Or.inr (by decide +kernel)
theorem d7_computeFirst_22 : jda cX7_computeFirst 22 1 23 := Or.inl ⟨1, by decide +kernel⟩
theorem d7_computeFirst_23 : jd cX7_computeFirst 23 (.getfield 45) 3 26 := by decide +kernel
theorem d7_computeFirst_26 : jdb cX7_computeFirst 26 (.if_icmp .ge 74) 74 100 29 := by decide +kernel
theorem d7_computeFirst_29 : jda cX7_computeFirst 29 1 30 := Or.inl ⟨1, by decide +kernel⟩
theorem d7_computeFirst_30 : jd cX7_computeFirst 30 (.getfield 50) 3 33 := by decide +kernel
theorem d7_computeFirst_33 : jdi cX7_computeFirst 33 4 35 := Or.inr (by decide +kernel)
theorem d7_computeFirst_35 : jd cX7_computeFirst 35 (.iaload) 1 36 := by decide +kernel
theorem d7_computeFirst_36 : jd cX7_computeFirst 36 (.invokestatic 57) 3 39 := by decide +kernel
theorem d7_computeFirst_39 : jds cX7_computeFirst 39 5 41 := Or.inr (by decide +kernel)
theorem d7_computeFirst_41 : jda cX7_computeFirst 41 0 42 := Or.inl ⟨0, by decide +kernel⟩
theorem d7_computeFirst_42 : jd cX7_computeFirst 42 (.getfield 9) 3 45 := by decide +kernel
theorem d7_computeFirst_45 : jdi cX7_computeFirst 45 5 47 := Or.inr (by decide +kernel)
theorem d7_computeFirst_47 : jd cX7_computeFirst 47 (.iaload) 1 48 := by decide +kernel
theorem d7_computeFirst_48 : jds cX7_computeFirst 48 6 50 := Or.inr (by decide +kernel)
theorem d7_computeFirst_50 : jda cX7_computeFirst 50 0 51 := Or.inl ⟨0, by decide +kernel⟩
theorem d7_computeFirst_51 : jd cX7_computeFirst 51 (.getfield 9) 3 54 := by decide +kernel
theorem d7_computeFirst_54 : jdi cX7_computeFirst 54 5 56 := Or.inr (by decide +kernel)
theorem d7_computeFirst_56 : jd cX7_computeFirst 56 (.dup2) 1 57 := by decide +kernel
theorem d7_computeFirst_57 : jd cX7_computeFirst 57 (.iaload) 1 58 := by decide +kernel
theorem d7_computeFirst_58 : jda cX7_computeFirst 58 0 59 := Or.inl ⟨0, by decide +kernel⟩
theorem d7_computeFirst_59 : jda cX7_computeFirst 59 1 60 := Or.inl ⟨1, by decide +kernel⟩
theorem d7_computeFirst_60 : jd cX7_computeFirst 60 (.getfield 50) 3 63 := by decide +kernel
theorem d7_computeFirst_63 : jdi cX7_computeFirst 63 4 65 := Or.inr (by decide +kernel)
theorem d7_computeFirst_65 : jd cX7_computeFirst 65 (.iaload) 1 66 := by decide +kernel
theorem d7_computeFirst_66 : jdk cX7_computeFirst 66 0 67 := Or.inl ⟨0, by decide +kernel⟩
theorem d7_computeFirst_67 : jd cX7_computeFirst 67 (.invokevirtual 61) 3 70 := by decide +kernel
theorem d7_computeFirst_70 : jd cX7_computeFirst 70 (.ior) 1 71 := by decide +kernel
theorem d7_computeFirst_71 : jd cX7_computeFirst 71 (.iastore) 1 72 := by decide +kernel
theorem d7_computeFirst_72 : jdi cX7_computeFirst 72 2 73 := Or.inl ⟨2, by decide +kernel⟩
theorem d7_computeFirst_73 : jdb cX7_computeFirst 73 (.ifCond .ne 15) 15 88 76 := by decide +kernel
theorem d7_computeFirst_76 : jda cX7_computeFirst 76 0 77 := Or.inl ⟨0, by decide +kernel⟩
theorem d7_computeFirst_77 : jd cX7_computeFirst 77 (.getfield 9) 3 80 := by decide +kernel
theorem d7_computeFirst_80 : jdi cX7_computeFirst 80 5 82 := Or.inr (by decide +kernel)
theorem d7_computeFirst_82 : jd cX7_computeFirst 82 (.iaload) 1 83 := by decide +kernel
theorem d7_computeFirst_83 : jdi cX7_computeFirst 83 6 85 := Or.inr (by decide +kernel)
theorem d7_computeFirst_85 : jdb cX7_computeFirst 85 (.if_icmp .eq 7) 7 92 88 := by decide +kernel
theorem d7_computeFirst_88 : jdk cX7_computeFirst 88 1 89 := Or.inl ⟨1, by decide +kernel⟩
theorem d7_computeFirst_89 : jdb cX7_computeFirst 89 (.goto 4) 4 93 92 := by decide +kernel
theorem d7_computeFirst_92 : jdk cX7_computeFirst 92 0 93 := Or.inl ⟨0, by decide +kernel⟩
theorem d7_computeFirst_93 : jds cX7_computeFirst 93 2 94 := Or.inl ⟨2, by decide +kernel⟩
theorem d7_computeFirst_94 : jd cX7_computeFirst 94 (.iinc 4 1) 3 97 := by decide +kernel
theorem d7_computeFirst_97 : jdb cX7_computeFirst 97 (.goto (-77)) (-77) 20 100 := by decide +kernel
theorem d7_computeFirst_100 : jd cX7_computeFirst 100 (.iinc 3 1) 3 103 := by decide +kernel
theorem d7_computeFirst_103 : jdb cX7_computeFirst 103 (.goto (-99)) (-99) 4 106 := by decide +kernel
theorem d7_computeFirst_106 : decode cX7_computeFirst 106 = .ok (.return_, 1) := by decide +kernel
set_option maxHeartbeats 4000000 in
set_option maxRecDepth 100000 in
theorem wX7_computeFirst_20 {X : jC} {tc : jTC} (C : jx X cX7_computeFirst 7 RX7 none tc ({ frames := 3, cells := 0, slots := 0, locals := 66 } : Room)) (N : Nat) (h_ h_first h_p1 h_p1_codes : Nat) (g_follow g_begins : Value) (c_nullable : Int32) (c_p1_codes : (Nat → Int32)) (c_p1_count : Int32) (v4 : Int32) (k10 : (Int32 → (Nat → Int32) → Option ((Nat → Int32)))) (hk10 : ∀ (v28 : Int32) (v29 : (Nat → Int32)), jo X 7 (0, 0) (jQV X (fun (u : (Nat → Int32)) => [(h_, .inr (7, [.int c_nullable, .ref h_first, g_follow, g_begins])), (h_first, .inl (tc.1, 8, .inl u)), (h_p1, .inr (6, [.ref h_p1_codes, .int c_p1_count])), (h_p1_codes, .inl (tc.1, 24, .inl c_p1_codes))])) (k10 v28 v29) [(h_, .inr (7, [.int c_nullable, .ref h_first, g_follow, g_begins])), (h_first, .inl (tc.1, 8, .inl v29)), (h_p1, .inr (6, [.ref h_p1_codes, .int c_p1_count])), (h_p1_codes, .inl (tc.1, 24, .inl c_p1_codes))] 100 [(0, .ref h_), (1, .ref h_p1), (2, .int v28), (3, .int v4)] []) (rc14 : Int32 → Int32 → (Nat → Int32) → Option ((Nat → Int32))) (hrc14 : ∀ (v11 : Int32) (v12 : Int32) (v13 : (Nat → Int32)), jo X 7 (0, 0) (jQV X (fun (u : (Nat → Int32)) => [(h_, .inr (7, [.int c_nullable, .ref h_first, g_follow, g_begins])), (h_first, .inl (tc.1, 8, .inl u)), (h_p1, .inr (6, [.ref h_p1_codes, .int c_p1_count])), (h_p1_codes, .inl (tc.1, 24, .inl c_p1_codes))])) (rc14 v11 v12 v13) [(h_, .inr (7, [.int c_nullable, .ref h_first, g_follow, g_begins])), (h_first, .inl (tc.1, 8, .inl v13)), (h_p1, .inr (6, [.ref h_p1_codes, .int c_p1_count])), (h_p1_codes, .inl (tc.1, 24, .inl c_p1_codes))] 20 [(0, .ref h_), (1, .ref h_p1), (2, .int v11), (3, .int v4), (4, .int v12)] []) (v11 : Int32) (v12 : Int32) (v13 : (Nat → Int32)) : jo X 7 (0, 0) (jQV X (fun (u : (Nat → Int32)) => [(h_, .inr (7, [.int c_nullable, .ref h_first, g_follow, g_begins])), (h_first, .inl (tc.1, 8, .inl u)), (h_p1, .inr (6, [.ref h_p1_codes, .int c_p1_count])), (h_p1_codes, .inl (tc.1, 24, .inl c_p1_codes))])) (bX7_computeFirst_20 N c_nullable c_p1_codes c_p1_count k10 rc14 v11 v12 v13) [(h_, .inr (7, [.int c_nullable, .ref h_first, g_follow, g_begins])), (h_first, .inl (tc.1, 8, .inl v13)), (h_p1, .inr (6, [.ref h_p1_codes, .int c_p1_count])), (h_p1_codes, .inl (tc.1, 24, .inl c_p1_codes))] 20 [(0, .ref h_), (1, .ref h_p1), (2, .int v11), (3, .int v4), (4, .int v12)] [] := by
  unfold bX7_computeFirst_20
  refine j_iload C d7_computeFirst_20 4 rfl ?_
  refine j_aload C d7_computeFirst_22 1 rfl ?_
  refine j_get C d7_computeFirst_23 fl7_45 2 rfl rfl ?_
  refine j_icmp_ge C d7_computeFirst_26 ?_ ?_
  · exact j_sub [0, 1, 2, 3] rfl (hk10 _ _)
  · refine j_aload C d7_computeFirst_29 1 rfl ?_
    refine j_get C d7_computeFirst_30 fl7_50 2 rfl rfl ?_
    refine j_iload C d7_computeFirst_33 4 rfl ?_
    refine j_iald C d7_computeFirst_35 3 rfl (fun x15 => ?_)
    refine j_callSI0 (As := [.int x15]) C d7_computeFirst_36 ms7_57 (kX6_leftOf _ _ tc x15) ⟨rfl, rfl, Nat.le_of_ble_eq_true rfl, Nat.le_of_ble_eq_true rfl⟩ rfl [] rfl rfl rfl (Nat.le_of_ble_eq_true rfl) (fun x16 => ?_)
    refine j_istore C d7_computeFirst_39 (by decide) (lv' := [(5, .int x16), (0, .ref h_), (1, .ref h_p1), (2, .int v11), (3, .int v4), (4, .int v12)]) rfl ?_
    refine j_aload C d7_computeFirst_41 1 rfl ?_
    refine j_get C d7_computeFirst_42 fl7_9 0 rfl rfl ?_
    refine j_iload C d7_computeFirst_45 0 rfl ?_
    refine j_iald C d7_computeFirst_47 1 rfl (fun x17 => ?_)
    refine j_istore C d7_computeFirst_48 (by decide) (lv' := [(6, .int x17), (5, .int x16), (0, .ref h_), (1, .ref h_p1), (2, .int v11), (3, .int v4), (4, .int v12)]) rfl ?_
    refine j_aload C d7_computeFirst_50 2 rfl ?_
    refine j_get C d7_computeFirst_51 fl7_9 0 rfl rfl ?_
    refine j_iload C d7_computeFirst_54 1 rfl ?_
    refine j_dup2 C d7_computeFirst_56 rfl rfl ?_
    refine j_iald C d7_computeFirst_57 1 rfl (fun x18 => ?_)
    refine j_aload C d7_computeFirst_58 2 rfl ?_
    refine j_aload C d7_computeFirst_59 3 rfl ?_
    refine j_get C d7_computeFirst_60 fl7_50 2 rfl rfl ?_
    refine j_iload C d7_computeFirst_63 6 rfl ?_
    refine j_iald C d7_computeFirst_65 3 rfl (fun x19 => ?_)
    refine j_const C d7_computeFirst_66 ?_
    refine j_callVI0 (As := [.int x19, .int 0]) C d7_computeFirst_67 mv7_61 (kX7_firstFrom _ _ tc N h_ h_first g_follow g_begins c_nullable v13 x19 0) ⟨rfl, rfl, Nat.le_of_ble_eq_true rfl, Nat.le_of_ble_eq_true rfl⟩ rfl 0 rfl [0, 1] rfl rfl rfl (Nat.le_of_ble_eq_true rfl) (fun x20 => ?_)
    refine j_ior C d7_computeFirst_70 ?_
    refine j_iast C (fun f21 => [(h_, .inr (7, [.int c_nullable, .ref h_first, g_follow, g_begins])), (h_first, .inl (tc.1, 8, .inl f21)), (h_p1, .inr (6, [.ref h_p1_codes, .int c_p1_count])), (h_p1_codes, .inl (tc.1, 24, .inl c_p1_codes))]) d7_computeFirst_71 1 rfl (fun _ => rfl) (fun f21 => ?_)
    refine j_iload C d7_computeFirst_72 4 rfl ?_
    refine j_join 93 (fun v22 => [(h_, .inr (7, [.int c_nullable, .ref h_first, g_follow, g_begins])), (h_first, .inl (tc.1, 8, .inl f21)), (h_p1, .inr (6, [.ref h_p1_codes, .int c_p1_count])), (h_p1_codes, .inl (tc.1, 24, .inl c_p1_codes))]) (fun v22 => [(0, .ref h_), (1, .ref h_p1), (3, .int v4), (4, .int v12)]) (fun v22 => [.int v22]) (fun v22 => ?_) (fun k24 hk24 => ?_)
    · refine j_istore C d7_computeFirst_93 (by decide) (lv' := [(2, .int v22), (0, .ref h_), (1, .ref h_p1), (3, .int v4), (4, .int v12)]) rfl ?_
      refine j_iincN C (fun x23 => [(4, .int x23), (2, .int v22), (0, .ref h_), (1, .ref h_p1), (3, .int v4)]) d7_computeFirst_94 4 rfl (by decide +kernel) (by decide) (fun _ => rfl) (fun x23 => ?_)
      refine j_goto C d7_computeFirst_97 ?_
      exact j_sub [2, 3, 1, 4, 0] rfl (hrc14 _ _ _)
    · refine j_join 88 (fun v25 => [(h_, .inr (7, [.int c_nullable, .ref h_first, g_follow, g_begins])), (h_first, .inl (tc.1, 8, .inl f21)), (h_p1, .inr (6, [.ref h_p1_codes, .int c_p1_count])), (h_p1_codes, .inl (tc.1, 24, .inl c_p1_codes))]) (fun v25 => [(0, .ref h_), (1, .ref h_p1), (3, .int v4), (4, .int v12)]) (fun v25 => []) (fun v25 => ?_) (fun k26 hk26 => ?_)
      · refine j_const C d7_computeFirst_88 ?_
        refine j_goto C d7_computeFirst_89 ?_
        exact hk24 _
      · refine j_if_ne C d7_computeFirst_73 ?_ ?_
        · exact j_sub [2, 3, 5, 6] rfl (hk26 _)
        · refine j_aload C d7_computeFirst_76 2 rfl ?_
          refine j_get C d7_computeFirst_77 fl7_9 0 rfl rfl ?_
          refine j_iload C d7_computeFirst_80 1 rfl ?_
          refine j_iald C d7_computeFirst_82 1 rfl (fun x27 => ?_)
          refine j_iload C d7_computeFirst_83 0 rfl ?_
          refine j_icmp_eq C d7_computeFirst_85 ?_ ?_
          · refine j_const C d7_computeFirst_92 ?_
            exact j_sub [2, 3, 5, 6] rfl (hk24 _)
          · exact j_sub [2, 3, 5, 6] rfl (hk26 _)

set_option maxHeartbeats 4000000 in
set_option maxRecDepth 100000 in
theorem wX7_computeFirst_4 {X : jC} {tc : jTC} (C : jx X cX7_computeFirst 7 RX7 none tc ({ frames := 3, cells := 0, slots := 0, locals := 66 } : Room)) (N : Nat) (h_ h_first h_p1 h_p1_codes : Nat) (g_follow g_begins : Value) (c_nullable : Int32) (c_p1_codes : (Nat → Int32)) (c_p1_count : Int32) (k2 : ((Nat → Int32) → Option ((Nat → Int32)))) (hk2 : ∀ (v30 : (Nat → Int32)), jo X 7 (0, 0) (jQV X (fun (u : (Nat → Int32)) => [(h_, .inr (7, [.int c_nullable, .ref h_first, g_follow, g_begins])), (h_first, .inl (tc.1, 8, .inl u)), (h_p1, .inr (6, [.ref h_p1_codes, .int c_p1_count])), (h_p1_codes, .inl (tc.1, 24, .inl c_p1_codes))])) (k2 v30) [(h_, .inr (7, [.int c_nullable, .ref h_first, g_follow, g_begins])), (h_first, .inl (tc.1, 8, .inl v30)), (h_p1, .inr (6, [.ref h_p1_codes, .int c_p1_count])), (h_p1_codes, .inl (tc.1, 24, .inl c_p1_codes))] 106 [] []) (rc6 : Int32 → Int32 → (Nat → Int32) → Option ((Nat → Int32))) (hrc6 : ∀ (v3 : Int32) (v4 : Int32) (v5 : (Nat → Int32)), jo X 7 (0, 0) (jQV X (fun (u : (Nat → Int32)) => [(h_, .inr (7, [.int c_nullable, .ref h_first, g_follow, g_begins])), (h_first, .inl (tc.1, 8, .inl u)), (h_p1, .inr (6, [.ref h_p1_codes, .int c_p1_count])), (h_p1_codes, .inl (tc.1, 24, .inl c_p1_codes))])) (rc6 v3 v4 v5) [(h_, .inr (7, [.int c_nullable, .ref h_first, g_follow, g_begins])), (h_first, .inl (tc.1, 8, .inl v5)), (h_p1, .inr (6, [.ref h_p1_codes, .int c_p1_count])), (h_p1_codes, .inl (tc.1, 24, .inl c_p1_codes))] 4 [(0, .ref h_), (1, .ref h_p1), (2, .int v3), (3, .int v4)] []) (v3 : Int32) (v4 : Int32) (v5 : (Nat → Int32)) : jo X 7 (0, 0) (jQV X (fun (u : (Nat → Int32)) => [(h_, .inr (7, [.int c_nullable, .ref h_first, g_follow, g_begins])), (h_first, .inl (tc.1, 8, .inl u)), (h_p1, .inr (6, [.ref h_p1_codes, .int c_p1_count])), (h_p1_codes, .inl (tc.1, 24, .inl c_p1_codes))])) (bX7_computeFirst_4 N c_nullable c_p1_codes c_p1_count k2 rc6 v3 v4 v5) [(h_, .inr (7, [.int c_nullable, .ref h_first, g_follow, g_begins])), (h_first, .inl (tc.1, 8, .inl v5)), (h_p1, .inr (6, [.ref h_p1_codes, .int c_p1_count])), (h_p1_codes, .inl (tc.1, 24, .inl c_p1_codes))] 4 [(0, .ref h_), (1, .ref h_p1), (2, .int v3), (3, .int v4)] [] := by
  unfold bX7_computeFirst_4
  refine j_iload C d7_computeFirst_4 3 rfl ?_
  refine j_const C d7_computeFirst_5 ?_
  refine j_icmp_ge C d7_computeFirst_8 ?_ ?_
  · exact j_sub [] rfl (hk2 _)
  · refine j_iload C d7_computeFirst_11 2 rfl ?_
    refine j_if_eq C d7_computeFirst_12 ?_ ?_
    · exact j_sub [] rfl (hk2 _)
    · refine j_const C d7_computeFirst_15 ?_
      refine j_istore C d7_computeFirst_16 (by decide) (lv' := [(2, .int 0), (0, .ref h_), (1, .ref h_p1), (3, .int v4)]) rfl ?_
      refine j_const C d7_computeFirst_17 ?_
      refine j_istore C d7_computeFirst_18 (by decide) (lv' := [(4, .int 0), (2, .int 0), (0, .ref h_), (1, .ref h_p1), (3, .int v4)]) rfl ?_
      refine j_join2 100 (fun v7 v8 => [(h_, .inr (7, [.int c_nullable, .ref h_first, g_follow, g_begins])), (h_first, .inl (tc.1, 8, .inl v8)), (h_p1, .inr (6, [.ref h_p1_codes, .int c_p1_count])), (h_p1_codes, .inl (tc.1, 24, .inl c_p1_codes))]) (fun v7 v8 => [(0, .ref h_), (1, .ref h_p1), (2, .int v7), (3, .int v4)]) (fun v7 v8 => []) (fun v7 v8 => ?_) (fun k10 hk10 => ?_)
      · refine j_iincN C (fun x9 => [(3, .int x9), (0, .ref h_), (1, .ref h_p1), (2, .int v7)]) d7_computeFirst_100 3 rfl (by decide +kernel) (by decide) (fun _ => rfl) (fun x9 => ?_)
        refine j_goto C d7_computeFirst_103 ?_
        exact j_sub [1, 2, 3, 0] rfl (hrc6 _ _ _)
      · exact j_sub [2, 3, 1, 4, 0] rfl (j_loop3 (fun v11 v12 v13 => [(h_, .inr (7, [.int c_nullable, .ref h_first, g_follow, g_begins])), (h_first, .inl (tc.1, 8, .inl v13)), (h_p1, .inr (6, [.ref h_p1_codes, .int c_p1_count])), (h_p1_codes, .inl (tc.1, 24, .inl c_p1_codes))]) (fun v11 v12 v13 => [(0, .ref h_), (1, .ref h_p1), (2, .int v11), (3, .int v4), (4, .int v12)]) (fun rc14 hrc14 v11 v12 v13 => wX7_computeFirst_20 C N h_ h_first h_p1 h_p1_codes g_follow g_begins c_nullable c_p1_codes c_p1_count v4 k10 hk10 rc14 hrc14 v11 v12 v13) N _ _ _)

set_option maxHeartbeats 4000000 in
set_option maxRecDepth 100000 in
theorem kX7_computeFirst (l : Launch) (D : va_G) (tc : jTC) (N : Nat) (h_ h_first h_p1 h_p1_codes : Nat) (g_follow g_begins : Value) (c_nullable : Int32) (c_first : (Nat → Int32)) (c_p1_codes : (Nat → Int32)) (c_p1_count : Int32) : ctV l D tc yX7_computeFirst (Cond.code yX7_computeFirst cX7_computeFirst 7 none :: jtb) ({ frames := 3, cells := 0, slots := 0, locals := 66 } : Room) [.ref h_, .ref h_p1] [(h_, .inr (7, [.int c_nullable, .ref h_first, g_follow, g_begins])), (h_first, .inl (tc.1, 8, .inl c_first)), (h_p1, .inr (6, [.ref h_p1_codes, .int c_p1_count])), (h_p1_codes, .inl (tc.1, 24, .inl c_p1_codes))] (fX7_computeFirst N c_nullable c_first c_p1_codes c_p1_count) (fun (u : (Nat → Int32)) => [(h_, .inr (7, [.int c_nullable, .ref h_first, g_follow, g_begins])), (h_first, .inl (tc.1, 8, .inl u)), (h_p1, .inr (6, [.ref h_p1_codes, .int c_p1_count])), (h_p1_codes, .inl (tc.1, 24, .inl c_p1_codes))]) := by
  refine ctV_of (lv0 := [(0, .ref h_), (1, .ref h_p1)]) (by decide +kernel) (Nat.le_of_ble_eq_true rfl) rfl (fun X C => ?_)
  unfold fX7_computeFirst
  refine j_const C d7_computeFirst_0 ?_
  refine j_istore C d7_computeFirst_1 (by decide) (lv' := [(2, .int 1), (0, .ref h_), (1, .ref h_p1)]) rfl ?_
  refine j_const C d7_computeFirst_2 ?_
  refine j_istore C d7_computeFirst_3 (by decide) (lv' := [(3, .int 0), (2, .int 1), (0, .ref h_), (1, .ref h_p1)]) rfl ?_
  refine j_join 106 (fun v1 => [(h_, .inr (7, [.int c_nullable, .ref h_first, g_follow, g_begins])), (h_first, .inl (tc.1, 8, .inl v1)), (h_p1, .inr (6, [.ref h_p1_codes, .int c_p1_count])), (h_p1_codes, .inl (tc.1, 24, .inl c_p1_codes))]) (fun v1 => []) (fun v1 => []) (fun v1 => ?_) (fun k2 hk2 => ?_)
  · exact j_vret C d7_computeFirst_106 rfl
  · exact j_sub [2, 3, 1, 0] rfl (j_loop3 (fun v3 v4 v5 => [(h_, .inr (7, [.int c_nullable, .ref h_first, g_follow, g_begins])), (h_first, .inl (tc.1, 8, .inl v5)), (h_p1, .inr (6, [.ref h_p1_codes, .int c_p1_count])), (h_p1_codes, .inl (tc.1, 24, .inl c_p1_codes))]) (fun v3 v4 v5 => [(0, .ref h_), (1, .ref h_p1), (2, .int v3), (3, .int v4)]) (fun rc6 hrc6 v3 v4 v5 => wX7_computeFirst_4 C N h_ h_first h_p1 h_p1_codes g_follow g_begins c_nullable c_p1_codes c_p1_count k2 hk2 rc6 hrc6 v3 v4 v5) N _ _ _)

theorem d7_spreadFollow_0 : jdk cX7_spreadFollow 0 0 1 := Or.inl ⟨0, by decide +kernel⟩
theorem d7_spreadFollow_1 : jds cX7_spreadFollow 1 2 2 := Or.inl ⟨2, by decide +kernel⟩
theorem d7_spreadFollow_2 : jda cX7_spreadFollow 2 0 3 := Or.inl ⟨0, by decide +kernel⟩
theorem d7_spreadFollow_3 : jd cX7_spreadFollow 3 (.getfield 15) 3 6 := by decide +kernel
theorem d7_spreadFollow_6 : jdi cX7_spreadFollow 6 1 7 := Or.inl ⟨1, by decide +kernel⟩
theorem d7_spreadFollow_7 : jd cX7_spreadFollow 7 (.invokestatic 57) 3 10 := by decide +kernel
theorem d7_spreadFollow_10 : jd cX7_spreadFollow 10 (.iaload) 1 11 := by decide +kernel
theorem d7_spreadFollow_11 : jds cX7_spreadFollow 11 3 12 := Or.inl ⟨3, by decide +kernel⟩
theorem d7_spreadFollow_12 : jdi cX7_spreadFollow 12 1 13 := Or.inl ⟨1, by decide +kernel⟩
theorem d7_spreadFollow_13 : jd cX7_spreadFollow 13 (.invokestatic 68) 3 16 := by decide +kernel
theorem d7_spreadFollow_16 : jdk cX7_spreadFollow 16 1 17 := Or.inl ⟨1, by decide +kernel⟩
theorem d7_spreadFollow_17 : jd cX7_spreadFollow 17 (.isub) 1 18 := by decide +kernel
theorem d7_spreadFollow_18 : jds cX7_spreadFollow 18 4 20 := Or.inr (by decide +kernel)
theorem d7_spreadFollow_20 : jdi cX7_spreadFollow 20 4 22 := Or.inr (by decide +kernel)
theorem d7_spreadFollow_22 : jdb cX7_spreadFollow 22 (.ifCond .lt 93) 93 115 25 := by decide +kernel
theorem d7_spreadFollow_25 : jdi cX7_spreadFollow 25 1 26 := Or.inl ⟨1, by decide +kernel⟩
theorem d7_spreadFollow_26 : jdi cX7_spreadFollow 26 4 28 := Or.inr (by decide +kernel)
theorem d7_spreadFollow_28 : jd cX7_spreadFollow 28 (.invokestatic 71) 3 31 := by decide +kernel
theorem d7_spreadFollow_31 : jds cX7_spreadFollow 31 5 33 := Or.inr (by decide +kernel)
theorem d7_spreadFollow_33 : jdi cX7_spreadFollow 33 5 35 := Or.inr (by decide +kernel)
theorem d7_spreadFollow_35 : jdk cX7_spreadFollow 35 10 37 := Or.inr (Or.inl ⟨10, by decide +kernel⟩)
theorem d7_spreadFollow_37 : jdb cX7_spreadFollow 37 (.if_icmp .lt 45) 45 82 40 := by decide +kernel
theorem d7_spreadFollow_40 : jdi cX7_spreadFollow 40 5 42 := Or.inr (by decide +kernel)
theorem d7_spreadFollow_42 : jdk cX7_spreadFollow 42 10 44 := Or.inr (Or.inl ⟨10, by decide +kernel⟩)
theorem d7_spreadFollow_44 : jd cX7_spreadFollow 44 (.isub) 1 45 := by decide +kernel
theorem d7_spreadFollow_45 : jds cX7_spreadFollow 45 6 47 := Or.inr (by decide +kernel)
theorem d7_spreadFollow_47 : jdi cX7_spreadFollow 47 2 48 := Or.inl ⟨2, by decide +kernel⟩
theorem d7_spreadFollow_48 : jdb cX7_spreadFollow 48 (.ifCond .ne 17) 17 65 51 := by decide +kernel
theorem d7_spreadFollow_51 : jdi cX7_spreadFollow 51 3 52 := Or.inl ⟨3, by decide +kernel⟩
theorem d7_spreadFollow_52 : jda cX7_spreadFollow 52 0 53 := Or.inl ⟨0, by decide +kernel⟩
theorem d7_spreadFollow_53 : jd cX7_spreadFollow 53 (.getfield 15) 3 56 := by decide +kernel
theorem d7_spreadFollow_56 : jdi cX7_spreadFollow 56 6 58 := Or.inr (by decide +kernel)
theorem d7_spreadFollow_58 : jd cX7_spreadFollow 58 (.iaload) 1 59 := by decide +kernel
theorem d7_spreadFollow_59 : jdk cX7_spreadFollow 59 (-1) 60 := Or.inl ⟨(-1), by decide +kernel⟩
theorem d7_spreadFollow_60 : jd cX7_spreadFollow 60 (.ixor) 1 61 := by decide +kernel
theorem d7_spreadFollow_61 : jd cX7_spreadFollow 61 (.iand) 1 62 := by decide +kernel
theorem d7_spreadFollow_62 : jdb cX7_spreadFollow 62 (.ifCond .eq 7) 7 69 65 := by decide +kernel
theorem d7_spreadFollow_65 : jdk cX7_spreadFollow 65 1 66 := Or.inl ⟨1, by decide +kernel⟩
theorem d7_spreadFollow_66 : jdb cX7_spreadFollow 66 (.goto 4) 4 70 69 := by decide +kernel
theorem d7_spreadFollow_69 : jdk cX7_spreadFollow 69 0 70 := Or.inl ⟨0, by decide +kernel⟩
theorem d7_spreadFollow_70 : jds cX7_spreadFollow 70 2 71 := Or.inl ⟨2, by decide +kernel⟩
theorem d7_spreadFollow_71 : jda cX7_spreadFollow 71 0 72 := Or.inl ⟨0, by decide +kernel⟩
theorem d7_spreadFollow_72 : jd cX7_spreadFollow 72 (.getfield 15) 3 75 := by decide +kernel
theorem d7_spreadFollow_75 : jdi cX7_spreadFollow 75 6 77 := Or.inr (by decide +kernel)
theorem d7_spreadFollow_77 : jd cX7_spreadFollow 77 (.dup2) 1 78 := by decide +kernel
theorem d7_spreadFollow_78 : jd cX7_spreadFollow 78 (.iaload) 1 79 := by decide +kernel
theorem d7_spreadFollow_79 : jdi cX7_spreadFollow 79 3 80 := Or.inl ⟨3, by decide +kernel⟩
theorem d7_spreadFollow_80 : jd cX7_spreadFollow 80 (.ior) 1 81 := by decide +kernel
theorem d7_spreadFollow_81 : jd cX7_spreadFollow 81 (.iastore) 1 82 := by decide +kernel
theorem d7_spreadFollow_82 : jda cX7_spreadFollow 82 0 83 := Or.inl ⟨0, by decide +kernel⟩
theorem d7_spreadFollow_83 : jdi cX7_spreadFollow 83 5 85 := Or.inr (by decide +kernel)
theorem d7_spreadFollow_85 : jd cX7_spreadFollow 85 (.invokevirtual 74) 3 88 := by decide +kernel
theorem d7_spreadFollow_88 : jdb cX7_spreadFollow 88 (.ifCond .eq 14) 14 102 91 := by decide +kernel
theorem d7_spreadFollow_91 : jdi cX7_spreadFollow 91 3 92 := Or.inl ⟨3, by decide +kernel⟩
theorem d7_spreadFollow_92 : jda cX7_spreadFollow 92 0 93 := Or.inl ⟨0, by decide +kernel⟩
theorem d7_spreadFollow_93 : jdi cX7_spreadFollow 93 5 95 := Or.inr (by decide +kernel)
theorem d7_spreadFollow_95 : jd cX7_spreadFollow 95 (.invokevirtual 77) 3 98 := by decide +kernel
theorem d7_spreadFollow_98 : jd cX7_spreadFollow 98 (.ior) 1 99 := by decide +kernel
theorem d7_spreadFollow_99 : jdb cX7_spreadFollow 99 (.goto 9) 9 108 102 := by decide +kernel
theorem d7_spreadFollow_102 : jda cX7_spreadFollow 102 0 103 := Or.inl ⟨0, by decide +kernel⟩
theorem d7_spreadFollow_103 : jdi cX7_spreadFollow 103 5 105 := Or.inr (by decide +kernel)
theorem d7_spreadFollow_105 : jd cX7_spreadFollow 105 (.invokevirtual 77) 3 108 := by decide +kernel
theorem d7_spreadFollow_108 : jds cX7_spreadFollow 108 3 109 := Or.inl ⟨3, by decide +kernel⟩
theorem d7_spreadFollow_109 : jd cX7_spreadFollow 109 (.iinc 4 (-1)) 3 112 := by decide +kernel
theorem d7_spreadFollow_112 : jdb cX7_spreadFollow 112 (.goto (-92)) (-92) 20 115 := by decide +kernel
theorem d7_spreadFollow_115 : jdi cX7_spreadFollow 115 2 116 := Or.inl ⟨2, by decide +kernel⟩
theorem d7_spreadFollow_116 : decode cX7_spreadFollow 116 = .ok (.ireturn, 1) := by decide +kernel
set_option maxHeartbeats 4000000 in
set_option maxRecDepth 100000 in
theorem wX7_spreadFollow_20 {X : jC} {tc : jTC} (C : jx X cX7_spreadFollow 7 RX7 (some .boolean) tc ({ frames := 2, cells := 0, slots := 0, locals := 42 } : Room)) (h_ h_first h_follow : Nat) (g_begins : Value) (p1 : Int32) (c_nullable : Int32) (c_first : (Nat → Int32)) (k7 : (Int32 → (Nat → Int32) → Option (Int32 × (Nat → Int32)))) (hk7 : ∀ (v31 : Int32) (v32 : (Nat → Int32)), jo X 7 (0, 0) (jQI X (fun (u : (Nat → Int32)) => [(h_, .inr (7, [.int c_nullable, .ref h_first, .ref h_follow, g_begins])), (h_first, .inl (tc.1, 8, .inl c_first)), (h_follow, .inl (tc.1, 8, .inl u))])) (k7 v31 v32) [(h_, .inr (7, [.int c_nullable, .ref h_first, .ref h_follow, g_begins])), (h_first, .inl (tc.1, 8, .inl c_first)), (h_follow, .inl (tc.1, 8, .inl v32))] 115 [(2, .int v31)] []) (rc12 : Int32 → Int32 → Int32 → (Nat → Int32) → Option (Int32 × (Nat → Int32))) (hrc12 : ∀ (v8 : Int32) (v9 : Int32) (v10 : Int32) (v11 : (Nat → Int32)), jo X 7 (0, 0) (jQI X (fun (u : (Nat → Int32)) => [(h_, .inr (7, [.int c_nullable, .ref h_first, .ref h_follow, g_begins])), (h_first, .inl (tc.1, 8, .inl c_first)), (h_follow, .inl (tc.1, 8, .inl u))])) (rc12 v8 v9 v10 v11) [(h_, .inr (7, [.int c_nullable, .ref h_first, .ref h_follow, g_begins])), (h_first, .inl (tc.1, 8, .inl c_first)), (h_follow, .inl (tc.1, 8, .inl v11))] 20 [(0, .ref h_), (1, .int p1), (2, .int v8), (3, .int v9), (4, .int v10)] []) (v8 : Int32) (v9 : Int32) (v10 : Int32) (v11 : (Nat → Int32)) : jo X 7 (0, 0) (jQI X (fun (u : (Nat → Int32)) => [(h_, .inr (7, [.int c_nullable, .ref h_first, .ref h_follow, g_begins])), (h_first, .inl (tc.1, 8, .inl c_first)), (h_follow, .inl (tc.1, 8, .inl u))])) (bX7_spreadFollow_20 p1 c_nullable c_first k7 rc12 v8 v9 v10 v11) [(h_, .inr (7, [.int c_nullable, .ref h_first, .ref h_follow, g_begins])), (h_first, .inl (tc.1, 8, .inl c_first)), (h_follow, .inl (tc.1, 8, .inl v11))] 20 [(0, .ref h_), (1, .int p1), (2, .int v8), (3, .int v9), (4, .int v10)] [] := by
  unfold bX7_spreadFollow_20
  refine j_iload C d7_spreadFollow_20 4 rfl ?_
  refine j_if_lt C d7_spreadFollow_22 ?_ ?_
  · exact j_sub [2] rfl (hk7 _ _)
  · refine j_iload C d7_spreadFollow_25 1 rfl ?_
    refine j_iload C d7_spreadFollow_26 4 rfl ?_
    refine j_callSI0 (As := [.int p1, .int v10]) C d7_spreadFollow_28 ms7_71 (kX6_symbolOf _ _ tc p1 v10) ⟨rfl, rfl, Nat.le_of_ble_eq_true rfl, Nat.le_of_ble_eq_true rfl⟩ rfl [] rfl rfl rfl (Nat.le_of_ble_eq_true rfl) (fun x13 => ?_)
    refine j_istore C d7_spreadFollow_31 (by decide) (lv' := [(5, .int x13), (0, .ref h_), (1, .int p1), (2, .int v8), (3, .int v9), (4, .int v10)]) rfl ?_
    refine j_iload C d7_spreadFollow_33 0 rfl ?_
    refine j_const C d7_spreadFollow_35 ?_
    refine j_join2 82 (fun v14 v15 => [(h_, .inr (7, [.int c_nullable, .ref h_first, .ref h_follow, g_begins])), (h_first, .inl (tc.1, 8, .inl c_first)), (h_follow, .inl (tc.1, 8, .inl v15))]) (fun v14 v15 => [(0, .ref h_), (1, .int p1), (2, .int v14), (3, .int v9), (4, .int v10), (5, .int x13)]) (fun v14 v15 => []) (fun v14 v15 => ?_) (fun k22 hk22 => ?_)
    · refine j_aload C d7_spreadFollow_82 0 rfl ?_
      refine j_iload C d7_spreadFollow_83 5 rfl ?_
      refine j_callVI0 (As := [.int x13]) C d7_spreadFollow_85 mv7_74 (kX7_isNullable _ _ tc h_ (.ref h_first) (.ref h_follow) g_begins c_nullable x13) ⟨rfl, rfl, Nat.le_of_ble_eq_true rfl, Nat.le_of_ble_eq_true rfl⟩ rfl 0 rfl [0] rfl rfl rfl (Nat.le_of_ble_eq_true rfl) (fun x16 => ?_)
      refine j_join 108 (fun v17 => [(h_, .inr (7, [.int c_nullable, .ref h_first, .ref h_follow, g_begins])), (h_first, .inl (tc.1, 8, .inl c_first)), (h_follow, .inl (tc.1, 8, .inl v15))]) (fun v17 => [(0, .ref h_), (1, .int p1), (2, .int v14), (4, .int v10)]) (fun v17 => [.int v17]) (fun v17 => ?_) (fun k19 hk19 => ?_)
      · refine j_istore C d7_spreadFollow_108 (by decide) (lv' := [(3, .int v17), (0, .ref h_), (1, .int p1), (2, .int v14), (4, .int v10)]) rfl ?_
        refine j_iincN C (fun x18 => [(4, .int x18), (3, .int v17), (0, .ref h_), (1, .int p1), (2, .int v14)]) d7_spreadFollow_109 4 rfl (by decide +kernel) (by decide) (fun _ => rfl) (fun x18 => ?_)
        refine j_goto C d7_spreadFollow_112 ?_
        exact j_sub [2, 3, 4, 1, 0] rfl (hrc12 _ _ _ _)
      · refine j_if_eq C d7_spreadFollow_88 ?_ ?_
        · refine j_aload C d7_spreadFollow_102 0 rfl ?_
          refine j_iload C d7_spreadFollow_103 5 rfl ?_
          refine j_callVI0 (As := [.int x13]) C d7_spreadFollow_105 mv7_77 (kX7_firstOf _ _ tc h_ h_first (.int c_nullable) (.ref h_follow) g_begins c_first x13) ⟨rfl, rfl, Nat.le_of_ble_eq_true rfl, Nat.le_of_ble_eq_true rfl⟩ rfl 0 rfl [0, 1] rfl rfl rfl (Nat.le_of_ble_eq_true rfl) (fun x20 => ?_)
          exact j_sub [0, 1, 2, 4] rfl (hk19 _)
        · refine j_iload C d7_spreadFollow_91 3 rfl ?_
          refine j_aload C d7_spreadFollow_92 0 rfl ?_
          refine j_iload C d7_spreadFollow_93 5 rfl ?_
          refine j_callVI0 (As := [.int x13]) C d7_spreadFollow_95 mv7_77 (kX7_firstOf _ _ tc h_ h_first (.int c_nullable) (.ref h_follow) g_begins c_first x13) ⟨rfl, rfl, Nat.le_of_ble_eq_true rfl, Nat.le_of_ble_eq_true rfl⟩ rfl 0 rfl [0, 1] rfl rfl rfl (Nat.le_of_ble_eq_true rfl) (fun x21 => ?_)
          refine j_ior C d7_spreadFollow_98 ?_
          refine j_goto C d7_spreadFollow_99 ?_
          exact j_sub [0, 1, 2, 4] rfl (hk19 _)
    · refine j_icmp_lt C d7_spreadFollow_37 ?_ ?_
      · exact j_sub [1, 2, 3, 4, 5, 0] rfl (hk22 _ _)
      · refine j_iload C d7_spreadFollow_40 0 rfl ?_
        refine j_const C d7_spreadFollow_42 ?_
        refine j_isub C d7_spreadFollow_44 ?_
        refine j_leti (fun x23 => ?_)
        refine j_istore C d7_spreadFollow_45 (by decide) (lv' := [(6, .int x23), (5, .int x13), (0, .ref h_), (1, .int p1), (2, .int v8), (3, .int v9), (4, .int v10)]) rfl ?_
        refine j_iload C d7_spreadFollow_47 4 rfl ?_
        refine j_join 70 (fun v24 => [(h_, .inr (7, [.int c_nullable, .ref h_first, .ref h_follow, g_begins])), (h_first, .inl (tc.1, 8, .inl c_first)), (h_follow, .inl (tc.1, 8, .inl v11))]) (fun v24 => [(0, .ref h_), (1, .int p1), (3, .int v9), (4, .int v10), (5, .int x13), (6, .int x23)]) (fun v24 => [.int v24]) (fun v24 => ?_) (fun k27 hk27 => ?_)
        · refine j_istore C d7_spreadFollow_70 (by decide) (lv' := [(2, .int v24), (0, .ref h_), (1, .int p1), (3, .int v9), (4, .int v10), (5, .int x13), (6, .int x23)]) rfl ?_
          refine j_aload C d7_spreadFollow_71 1 rfl ?_
          refine j_get C d7_spreadFollow_72 fl7_15 0 rfl rfl ?_
          refine j_iload C d7_spreadFollow_75 6 rfl ?_
          refine j_dup2 C d7_spreadFollow_77 rfl rfl ?_
          refine j_iald C d7_spreadFollow_78 2 rfl (fun x25 => ?_)
          refine j_iload C d7_spreadFollow_79 3 rfl ?_
          refine j_ior C d7_spreadFollow_80 ?_
          refine j_iast C (fun f26 => [(h_, .inr (7, [.int c_nullable, .ref h_first, .ref h_follow, g_begins])), (h_first, .inl (tc.1, 8, .inl c_first)), (h_follow, .inl (tc.1, 8, .inl f26))]) d7_spreadFollow_81 2 rfl (fun _ => rfl) (fun f26 => ?_)
          exact j_sub [1, 2, 0, 3, 4, 5] rfl (hk22 _ _)
        · refine j_join 65 (fun v28 => [(h_, .inr (7, [.int c_nullable, .ref h_first, .ref h_follow, g_begins])), (h_first, .inl (tc.1, 8, .inl c_first)), (h_follow, .inl (tc.1, 8, .inl v11))]) (fun v28 => [(0, .ref h_), (1, .int p1), (3, .int v9), (4, .int v10), (5, .int x13), (6, .int x23)]) (fun v28 => []) (fun v28 => ?_) (fun k29 hk29 => ?_)
          · refine j_const C d7_spreadFollow_65 ?_
            refine j_goto C d7_spreadFollow_66 ?_
            exact hk27 _
          · refine j_if_ne C d7_spreadFollow_48 ?_ ?_
            · exact j_sub [2, 3, 5, 6, 1, 0] rfl (hk29 _)
            · refine j_iload C d7_spreadFollow_51 5 rfl ?_
              refine j_aload C d7_spreadFollow_52 2 rfl ?_
              refine j_get C d7_spreadFollow_53 fl7_15 0 rfl rfl ?_
              refine j_iload C d7_spreadFollow_56 0 rfl ?_
              refine j_iald C d7_spreadFollow_58 2 rfl (fun x30 => ?_)
              refine j_const C d7_spreadFollow_59 ?_
              refine j_ixor C d7_spreadFollow_60 ?_
              refine j_iand C d7_spreadFollow_61 ?_
              refine j_if_eq C d7_spreadFollow_62 ?_ ?_
              · refine j_const C d7_spreadFollow_69 ?_
                exact j_sub [2, 3, 5, 6, 1, 0] rfl (hk27 _)
              · exact j_sub [2, 3, 5, 6, 1, 0] rfl (hk29 _)

set_option maxHeartbeats 4000000 in
set_option maxRecDepth 100000 in
theorem kX7_spreadFollow (l : Launch) (D : va_G) (tc : jTC) (N : Nat) (h_ h_first h_follow : Nat) (g_begins : Value) (c_nullable : Int32) (c_first : (Nat → Int32)) (c_follow : (Nat → Int32)) (p1 : Int32) : ctI l D tc yX7_spreadFollow (Cond.code yX7_spreadFollow cX7_spreadFollow 7 (some .boolean) :: jtb) ({ frames := 2, cells := 0, slots := 0, locals := 42 } : Room) [.ref h_, .int p1] [(h_, .inr (7, [.int c_nullable, .ref h_first, .ref h_follow, g_begins])), (h_first, .inl (tc.1, 8, .inl c_first)), (h_follow, .inl (tc.1, 8, .inl c_follow))] (fX7_spreadFollow N c_nullable c_first c_follow p1) (fun (u : (Nat → Int32)) => [(h_, .inr (7, [.int c_nullable, .ref h_first, .ref h_follow, g_begins])), (h_first, .inl (tc.1, 8, .inl c_first)), (h_follow, .inl (tc.1, 8, .inl u))]) := by
  refine ctI_of (lv0 := [(0, .ref h_), (1, .int p1)]) (by decide +kernel) (Nat.le_of_ble_eq_true rfl) rfl (fun X C => ?_)
  unfold fX7_spreadFollow
  refine j_const C d7_spreadFollow_0 ?_
  refine j_istore C d7_spreadFollow_1 (by decide) (lv' := [(2, .int 0), (0, .ref h_), (1, .int p1)]) rfl ?_
  refine j_aload C d7_spreadFollow_2 1 rfl ?_
  refine j_get C d7_spreadFollow_3 fl7_15 0 rfl rfl ?_
  refine j_iload C d7_spreadFollow_6 2 rfl ?_
  refine j_callSI0 (As := [.int p1]) C d7_spreadFollow_7 ms7_57 (kX6_leftOf _ _ tc p1) ⟨rfl, rfl, Nat.le_of_ble_eq_true rfl, Nat.le_of_ble_eq_true rfl⟩ rfl [] rfl rfl rfl (Nat.le_of_ble_eq_true rfl) (fun x1 => ?_)
  refine j_iald C d7_spreadFollow_10 2 rfl (fun x2 => ?_)
  refine j_istore C d7_spreadFollow_11 (by decide) (lv' := [(3, .int x2), (2, .int 0), (0, .ref h_), (1, .int p1)]) rfl ?_
  refine j_iload C d7_spreadFollow_12 3 rfl ?_
  refine j_callSI0 (As := [.int p1]) C d7_spreadFollow_13 ms7_68 (kX6_lengthOf _ _ tc p1) ⟨rfl, rfl, Nat.le_of_ble_eq_true rfl, Nat.le_of_ble_eq_true rfl⟩ rfl [] rfl rfl rfl (Nat.le_of_ble_eq_true rfl) (fun x3 => ?_)
  refine j_const C d7_spreadFollow_16 ?_
  refine j_isub C d7_spreadFollow_17 ?_
  refine j_leti (fun x4 => ?_)
  refine j_istore C d7_spreadFollow_18 (by decide) (lv' := [(4, .int x4), (3, .int x2), (2, .int 0), (0, .ref h_), (1, .int p1)]) rfl ?_
  refine j_join2 115 (fun v5 v6 => [(h_, .inr (7, [.int c_nullable, .ref h_first, .ref h_follow, g_begins])), (h_first, .inl (tc.1, 8, .inl c_first)), (h_follow, .inl (tc.1, 8, .inl v6))]) (fun v5 v6 => [(2, .int v5)]) (fun v5 v6 => []) (fun v5 v6 => ?_) (fun k7 hk7 => ?_)
  · refine j_iload C d7_spreadFollow_115 0 rfl ?_
    refine j_gz (fun hz => ?_)
    exact j_zret C hz d7_spreadFollow_116 rfl
  · exact j_sub [3, 4, 2, 1, 0] rfl (j_loop4 (fun v8 v9 v10 v11 => [(h_, .inr (7, [.int c_nullable, .ref h_first, .ref h_follow, g_begins])), (h_first, .inl (tc.1, 8, .inl c_first)), (h_follow, .inl (tc.1, 8, .inl v11))]) (fun v8 v9 v10 v11 => [(0, .ref h_), (1, .int p1), (2, .int v8), (3, .int v9), (4, .int v10)]) (fun rc12 hrc12 v8 v9 v10 v11 => wX7_spreadFollow_20 C h_ h_first h_follow g_begins p1 c_nullable c_first k7 hk7 rc12 hrc12 v8 v9 v10 v11) N _ _ _ _)

theorem d7_computeFollow_0 : jdk cX7_computeFollow 0 1 1 := Or.inl ⟨1, by decide +kernel⟩
theorem d7_computeFollow_1 : jds cX7_computeFollow 1 2 2 := Or.inl ⟨2, by decide +kernel⟩
theorem d7_computeFollow_2 : jdk cX7_computeFollow 2 0 3 := Or.inl ⟨0, by decide +kernel⟩
theorem d7_computeFollow_3 : jds cX7_computeFollow 3 3 4 := Or.inl ⟨3, by decide +kernel⟩
theorem d7_computeFollow_4 : jdi cX7_computeFollow 4 3 5 := Or.inl ⟨3, by decide +kernel⟩
theorem d7_computeFollow_5 : jdk cX7_computeFollow 5 1000 8 := Or.inr (Or.inr ⟨1000, by decide +kernel⟩)
theorem d7_computeFollow_8 : jdb cX7_computeFollow 8 (.if_icmp .ge 57) 57 65 11 := by decide +kernel
theorem d7_computeFollow_11 : jdi cX7_computeFollow 11 2 12 := Or.inl ⟨2, by decide +kernel⟩
theorem d7_computeFollow_12 : jdb cX7_computeFollow 12 (.ifCond .eq 53) 53 65 15 := by decide +kernel
theorem d7_computeFollow_15 : jdk cX7_computeFollow 15 0 16 := Or.inl ⟨0, by decide +kernel⟩
theorem d7_computeFollow_16 : jds cX7_computeFollow 16 2 17 := Or.inl ⟨2, by decide +kernel⟩
theorem d7_computeFollow_17 : jdk cX7_computeFollow 17 0 18 := Or.inl ⟨0, by decide +kernel⟩
theorem d7_computeFollow_18 : jds cX7_computeFollow 18 4 20 := Or.inr (by decide +kernel)
theorem d7_computeFollow_20 : jdi cX7_computeFollow 20 4 22 := Or.inr (by decide +kernel)
theorem d7_computeFollow_22 : jda cX7_computeFollow 22 1 23 := Or.inl ⟨1, by decide +kernel⟩
theorem d7_computeFollow_23 : jd cX7_computeFollow 23 (.getfield 45) 3 26 := by decide +kernel
theorem d7_computeFollow_26 : jdb cX7_computeFollow 26 (.if_icmp .ge 33) 33 59 29 := by decide +kernel
theorem d7_computeFollow_29 : jda cX7_computeFollow 29 0 30 := Or.inl ⟨0, by decide +kernel⟩
theorem d7_computeFollow_30 : jda cX7_computeFollow 30 1 31 := Or.inl ⟨1, by decide +kernel⟩
theorem d7_computeFollow_31 : jd cX7_computeFollow 31 (.getfield 50) 3 34 := by decide +kernel
theorem d7_computeFollow_34 : jdi cX7_computeFollow 34 4 36 := Or.inr (by decide +kernel)
theorem d7_computeFollow_36 : jd cX7_computeFollow 36 (.iaload) 1 37 := by decide +kernel
theorem d7_computeFollow_37 : jd cX7_computeFollow 37 (.invokevirtual 64) 3 40 := by decide +kernel
theorem d7_computeFollow_40 : jdb cX7_computeFollow 40 (.ifCond .ne 7) 7 47 43 := by decide +kernel
theorem d7_computeFollow_43 : jdi cX7_computeFollow 43 2 44 := Or.inl ⟨2, by decide +kernel⟩
theorem d7_computeFollow_44 : jdb cX7_computeFollow 44 (.ifCond .eq 7) 7 51 47 := by decide +kernel
theorem d7_computeFollow_47 : jdk cX7_computeFollow 47 1 48 := Or.inl ⟨1, by decide +kernel⟩
theorem d7_computeFollow_48 : jdb cX7_computeFollow 48 (.goto 4) 4 52 51 := by decide +kernel
theorem d7_computeFollow_51 : jdk cX7_computeFollow 51 0 52 := Or.inl ⟨0, by decide +kernel⟩
theorem d7_computeFollow_52 : jds cX7_computeFollow 52 2 53 := Or.inl ⟨2, by decide +kernel⟩
theorem d7_computeFollow_53 : jd cX7_computeFollow 53 (.iinc 4 1) 3 56 := by decide +kernel
theorem d7_computeFollow_56 : jdb cX7_computeFollow 56 (.goto (-36)) (-36) 20 59 := by decide +kernel
theorem d7_computeFollow_59 : jd cX7_computeFollow 59 (.iinc 3 1) 3 62 := by decide +kernel
theorem d7_computeFollow_62 : jdb cX7_computeFollow 62 (.goto (-58)) (-58) 4 65 := by decide +kernel
theorem d7_computeFollow_65 : decode cX7_computeFollow 65 = .ok (.return_, 1) := by decide +kernel
set_option maxHeartbeats 4000000 in
set_option maxRecDepth 100000 in
theorem wX7_computeFollow_20 {X : jC} {tc : jTC} (C : jx X cX7_computeFollow 5 RX7 none tc ({ frames := 3, cells := 0, slots := 0, locals := 68 } : Room)) (N : Nat) (h_ h_first h_follow h_p1 h_p1_codes : Nat) (g_begins : Value) (c_nullable : Int32) (c_first : (Nat → Int32)) (c_p1_codes : (Nat → Int32)) (c_p1_count : Int32) (v4 : Int32) (k10 : (Int32 → (Nat → Int32) → Option ((Nat → Int32)))) (hk10 : ∀ (v23 : Int32) (v24 : (Nat → Int32)), jo X 5 (0, 0) (jQV X (fun (u : (Nat → Int32)) => [(h_, .inr (7, [.int c_nullable, .ref h_first, .ref h_follow, g_begins])), (h_first, .inl (tc.1, 8, .inl c_first)), (h_follow, .inl (tc.1, 8, .inl u)), (h_p1, .inr (6, [.ref h_p1_codes, .int c_p1_count])), (h_p1_codes, .inl (tc.1, 24, .inl c_p1_codes))])) (k10 v23 v24) [(h_, .inr (7, [.int c_nullable, .ref h_first, .ref h_follow, g_begins])), (h_first, .inl (tc.1, 8, .inl c_first)), (h_follow, .inl (tc.1, 8, .inl v24)), (h_p1, .inr (6, [.ref h_p1_codes, .int c_p1_count])), (h_p1_codes, .inl (tc.1, 24, .inl c_p1_codes))] 59 [(0, .ref h_), (1, .ref h_p1), (2, .int v23), (3, .int v4)] []) (rc14 : Int32 → Int32 → (Nat → Int32) → Option ((Nat → Int32))) (hrc14 : ∀ (v11 : Int32) (v12 : Int32) (v13 : (Nat → Int32)), jo X 5 (0, 0) (jQV X (fun (u : (Nat → Int32)) => [(h_, .inr (7, [.int c_nullable, .ref h_first, .ref h_follow, g_begins])), (h_first, .inl (tc.1, 8, .inl c_first)), (h_follow, .inl (tc.1, 8, .inl u)), (h_p1, .inr (6, [.ref h_p1_codes, .int c_p1_count])), (h_p1_codes, .inl (tc.1, 24, .inl c_p1_codes))])) (rc14 v11 v12 v13) [(h_, .inr (7, [.int c_nullable, .ref h_first, .ref h_follow, g_begins])), (h_first, .inl (tc.1, 8, .inl c_first)), (h_follow, .inl (tc.1, 8, .inl v13)), (h_p1, .inr (6, [.ref h_p1_codes, .int c_p1_count])), (h_p1_codes, .inl (tc.1, 24, .inl c_p1_codes))] 20 [(0, .ref h_), (1, .ref h_p1), (2, .int v11), (3, .int v4), (4, .int v12)] []) (v11 : Int32) (v12 : Int32) (v13 : (Nat → Int32)) : jo X 5 (0, 0) (jQV X (fun (u : (Nat → Int32)) => [(h_, .inr (7, [.int c_nullable, .ref h_first, .ref h_follow, g_begins])), (h_first, .inl (tc.1, 8, .inl c_first)), (h_follow, .inl (tc.1, 8, .inl u)), (h_p1, .inr (6, [.ref h_p1_codes, .int c_p1_count])), (h_p1_codes, .inl (tc.1, 24, .inl c_p1_codes))])) (bX7_computeFollow_20 N c_nullable c_first c_p1_codes c_p1_count k10 rc14 v11 v12 v13) [(h_, .inr (7, [.int c_nullable, .ref h_first, .ref h_follow, g_begins])), (h_first, .inl (tc.1, 8, .inl c_first)), (h_follow, .inl (tc.1, 8, .inl v13)), (h_p1, .inr (6, [.ref h_p1_codes, .int c_p1_count])), (h_p1_codes, .inl (tc.1, 24, .inl c_p1_codes))] 20 [(0, .ref h_), (1, .ref h_p1), (2, .int v11), (3, .int v4), (4, .int v12)] [] := by
  unfold bX7_computeFollow_20
  refine j_iload C d7_computeFollow_20 4 rfl ?_
  refine j_aload C d7_computeFollow_22 1 rfl ?_
  refine j_get C d7_computeFollow_23 fl7_45 3 rfl rfl ?_
  refine j_icmp_ge C d7_computeFollow_26 ?_ ?_
  · exact j_sub [0, 1, 2, 3] rfl (hk10 _ _)
  · refine j_aload C d7_computeFollow_29 0 rfl ?_
    refine j_aload C d7_computeFollow_30 1 rfl ?_
    refine j_get C d7_computeFollow_31 fl7_50 3 rfl rfl ?_
    refine j_iload C d7_computeFollow_34 4 rfl ?_
    refine j_iald C d7_computeFollow_36 4 rfl (fun x15 => ?_)
    refine j_callVI2 (As := [.int x15]) C d7_computeFollow_37 mv7_64 (kX7_spreadFollow _ _ tc N h_ h_first h_follow g_begins c_nullable c_first v13 x15) ⟨rfl, rfl, Nat.le_of_ble_eq_true rfl, Nat.le_of_ble_eq_true rfl⟩ rfl 0 rfl [0, 1, 2] rfl rfl rfl (Nat.le_of_ble_eq_true rfl) (fun o16 => [(h_, .inr (7, [.int c_nullable, .ref h_first, .ref h_follow, g_begins])), (h_first, .inl (tc.1, 8, .inl c_first)), (h_follow, .inl (tc.1, 8, .inl o16)), (h_p1, .inr (6, [.ref h_p1_codes, .int c_p1_count])), (h_p1_codes, .inl (tc.1, 24, .inl c_p1_codes))]) [(true, 0), (true, 1), (true, 2), (false, 3), (false, 4)] (fun _ => rfl) (by decide +kernel) (fun o17 o16 => ?_)
    refine j_join 52 (fun v18 => [(h_, .inr (7, [.int c_nullable, .ref h_first, .ref h_follow, g_begins])), (h_first, .inl (tc.1, 8, .inl c_first)), (h_follow, .inl (tc.1, 8, .inl o16)), (h_p1, .inr (6, [.ref h_p1_codes, .int c_p1_count])), (h_p1_codes, .inl (tc.1, 24, .inl c_p1_codes))]) (fun v18 => [(0, .ref h_), (1, .ref h_p1), (3, .int v4), (4, .int v12)]) (fun v18 => [.int v18]) (fun v18 => ?_) (fun k20 hk20 => ?_)
    · refine j_istore C d7_computeFollow_52 (by decide) (lv' := [(2, .int v18), (0, .ref h_), (1, .ref h_p1), (3, .int v4), (4, .int v12)]) rfl ?_
      refine j_iincN C (fun x19 => [(4, .int x19), (2, .int v18), (0, .ref h_), (1, .ref h_p1), (3, .int v4)]) d7_computeFollow_53 4 rfl (by decide +kernel) (by decide) (fun _ => rfl) (fun x19 => ?_)
      refine j_goto C d7_computeFollow_56 ?_
      exact j_sub [2, 3, 1, 4, 0] rfl (hrc14 _ _ _)
    · refine j_join 47 (fun v21 => [(h_, .inr (7, [.int c_nullable, .ref h_first, .ref h_follow, g_begins])), (h_first, .inl (tc.1, 8, .inl c_first)), (h_follow, .inl (tc.1, 8, .inl o16)), (h_p1, .inr (6, [.ref h_p1_codes, .int c_p1_count])), (h_p1_codes, .inl (tc.1, 24, .inl c_p1_codes))]) (fun v21 => [(0, .ref h_), (1, .ref h_p1), (3, .int v4), (4, .int v12)]) (fun v21 => []) (fun v21 => ?_) (fun k22 hk22 => ?_)
      · refine j_const C d7_computeFollow_47 ?_
        refine j_goto C d7_computeFollow_48 ?_
        exact hk20 _
      · refine j_if_ne C d7_computeFollow_40 ?_ ?_
        · exact j_sub [0, 1, 3, 4] rfl (hk22 _)
        · refine j_iload C d7_computeFollow_43 2 rfl ?_
          refine j_if_eq C d7_computeFollow_44 ?_ ?_
          · refine j_const C d7_computeFollow_51 ?_
            exact j_sub [0, 1, 3, 4] rfl (hk20 _)
          · exact j_sub [0, 1, 3, 4] rfl (hk22 _)

set_option maxHeartbeats 4000000 in
set_option maxRecDepth 100000 in
theorem wX7_computeFollow_4 {X : jC} {tc : jTC} (C : jx X cX7_computeFollow 5 RX7 none tc ({ frames := 3, cells := 0, slots := 0, locals := 68 } : Room)) (N : Nat) (h_ h_first h_follow h_p1 h_p1_codes : Nat) (g_begins : Value) (c_nullable : Int32) (c_first : (Nat → Int32)) (c_p1_codes : (Nat → Int32)) (c_p1_count : Int32) (k2 : ((Nat → Int32) → Option ((Nat → Int32)))) (hk2 : ∀ (v25 : (Nat → Int32)), jo X 5 (0, 0) (jQV X (fun (u : (Nat → Int32)) => [(h_, .inr (7, [.int c_nullable, .ref h_first, .ref h_follow, g_begins])), (h_first, .inl (tc.1, 8, .inl c_first)), (h_follow, .inl (tc.1, 8, .inl u)), (h_p1, .inr (6, [.ref h_p1_codes, .int c_p1_count])), (h_p1_codes, .inl (tc.1, 24, .inl c_p1_codes))])) (k2 v25) [(h_, .inr (7, [.int c_nullable, .ref h_first, .ref h_follow, g_begins])), (h_first, .inl (tc.1, 8, .inl c_first)), (h_follow, .inl (tc.1, 8, .inl v25)), (h_p1, .inr (6, [.ref h_p1_codes, .int c_p1_count])), (h_p1_codes, .inl (tc.1, 24, .inl c_p1_codes))] 65 [] []) (rc6 : Int32 → Int32 → (Nat → Int32) → Option ((Nat → Int32))) (hrc6 : ∀ (v3 : Int32) (v4 : Int32) (v5 : (Nat → Int32)), jo X 5 (0, 0) (jQV X (fun (u : (Nat → Int32)) => [(h_, .inr (7, [.int c_nullable, .ref h_first, .ref h_follow, g_begins])), (h_first, .inl (tc.1, 8, .inl c_first)), (h_follow, .inl (tc.1, 8, .inl u)), (h_p1, .inr (6, [.ref h_p1_codes, .int c_p1_count])), (h_p1_codes, .inl (tc.1, 24, .inl c_p1_codes))])) (rc6 v3 v4 v5) [(h_, .inr (7, [.int c_nullable, .ref h_first, .ref h_follow, g_begins])), (h_first, .inl (tc.1, 8, .inl c_first)), (h_follow, .inl (tc.1, 8, .inl v5)), (h_p1, .inr (6, [.ref h_p1_codes, .int c_p1_count])), (h_p1_codes, .inl (tc.1, 24, .inl c_p1_codes))] 4 [(0, .ref h_), (1, .ref h_p1), (2, .int v3), (3, .int v4)] []) (v3 : Int32) (v4 : Int32) (v5 : (Nat → Int32)) : jo X 5 (0, 0) (jQV X (fun (u : (Nat → Int32)) => [(h_, .inr (7, [.int c_nullable, .ref h_first, .ref h_follow, g_begins])), (h_first, .inl (tc.1, 8, .inl c_first)), (h_follow, .inl (tc.1, 8, .inl u)), (h_p1, .inr (6, [.ref h_p1_codes, .int c_p1_count])), (h_p1_codes, .inl (tc.1, 24, .inl c_p1_codes))])) (bX7_computeFollow_4 N c_nullable c_first c_p1_codes c_p1_count k2 rc6 v3 v4 v5) [(h_, .inr (7, [.int c_nullable, .ref h_first, .ref h_follow, g_begins])), (h_first, .inl (tc.1, 8, .inl c_first)), (h_follow, .inl (tc.1, 8, .inl v5)), (h_p1, .inr (6, [.ref h_p1_codes, .int c_p1_count])), (h_p1_codes, .inl (tc.1, 24, .inl c_p1_codes))] 4 [(0, .ref h_), (1, .ref h_p1), (2, .int v3), (3, .int v4)] [] := by
  unfold bX7_computeFollow_4
  refine j_iload C d7_computeFollow_4 3 rfl ?_
  refine j_const C d7_computeFollow_5 ?_
  refine j_icmp_ge C d7_computeFollow_8 ?_ ?_
  · exact j_sub [] rfl (hk2 _)
  · refine j_iload C d7_computeFollow_11 2 rfl ?_
    refine j_if_eq C d7_computeFollow_12 ?_ ?_
    · exact j_sub [] rfl (hk2 _)
    · refine j_const C d7_computeFollow_15 ?_
      refine j_istore C d7_computeFollow_16 (by decide) (lv' := [(2, .int 0), (0, .ref h_), (1, .ref h_p1), (3, .int v4)]) rfl ?_
      refine j_const C d7_computeFollow_17 ?_
      refine j_istore C d7_computeFollow_18 (by decide) (lv' := [(4, .int 0), (2, .int 0), (0, .ref h_), (1, .ref h_p1), (3, .int v4)]) rfl ?_
      refine j_join2 59 (fun v7 v8 => [(h_, .inr (7, [.int c_nullable, .ref h_first, .ref h_follow, g_begins])), (h_first, .inl (tc.1, 8, .inl c_first)), (h_follow, .inl (tc.1, 8, .inl v8)), (h_p1, .inr (6, [.ref h_p1_codes, .int c_p1_count])), (h_p1_codes, .inl (tc.1, 24, .inl c_p1_codes))]) (fun v7 v8 => [(0, .ref h_), (1, .ref h_p1), (2, .int v7), (3, .int v4)]) (fun v7 v8 => []) (fun v7 v8 => ?_) (fun k10 hk10 => ?_)
      · refine j_iincN C (fun x9 => [(3, .int x9), (0, .ref h_), (1, .ref h_p1), (2, .int v7)]) d7_computeFollow_59 3 rfl (by decide +kernel) (by decide) (fun _ => rfl) (fun x9 => ?_)
        refine j_goto C d7_computeFollow_62 ?_
        exact j_sub [1, 2, 3, 0] rfl (hrc6 _ _ _)
      · exact j_sub [2, 3, 1, 4, 0] rfl (j_loop3 (fun v11 v12 v13 => [(h_, .inr (7, [.int c_nullable, .ref h_first, .ref h_follow, g_begins])), (h_first, .inl (tc.1, 8, .inl c_first)), (h_follow, .inl (tc.1, 8, .inl v13)), (h_p1, .inr (6, [.ref h_p1_codes, .int c_p1_count])), (h_p1_codes, .inl (tc.1, 24, .inl c_p1_codes))]) (fun v11 v12 v13 => [(0, .ref h_), (1, .ref h_p1), (2, .int v11), (3, .int v4), (4, .int v12)]) (fun rc14 hrc14 v11 v12 v13 => wX7_computeFollow_20 C N h_ h_first h_follow h_p1 h_p1_codes g_begins c_nullable c_first c_p1_codes c_p1_count v4 k10 hk10 rc14 hrc14 v11 v12 v13) N _ _ _)

set_option maxHeartbeats 4000000 in
set_option maxRecDepth 100000 in
theorem kX7_computeFollow (l : Launch) (D : va_G) (tc : jTC) (N : Nat) (h_ h_first h_follow h_p1 h_p1_codes : Nat) (g_begins : Value) (c_nullable : Int32) (c_first : (Nat → Int32)) (c_follow : (Nat → Int32)) (c_p1_codes : (Nat → Int32)) (c_p1_count : Int32) : ctV l D tc yX7_computeFollow (Cond.code yX7_computeFollow cX7_computeFollow 5 none :: jtb) ({ frames := 3, cells := 0, slots := 0, locals := 68 } : Room) [.ref h_, .ref h_p1] [(h_, .inr (7, [.int c_nullable, .ref h_first, .ref h_follow, g_begins])), (h_first, .inl (tc.1, 8, .inl c_first)), (h_follow, .inl (tc.1, 8, .inl c_follow)), (h_p1, .inr (6, [.ref h_p1_codes, .int c_p1_count])), (h_p1_codes, .inl (tc.1, 24, .inl c_p1_codes))] (fX7_computeFollow N c_nullable c_first c_follow c_p1_codes c_p1_count) (fun (u : (Nat → Int32)) => [(h_, .inr (7, [.int c_nullable, .ref h_first, .ref h_follow, g_begins])), (h_first, .inl (tc.1, 8, .inl c_first)), (h_follow, .inl (tc.1, 8, .inl u)), (h_p1, .inr (6, [.ref h_p1_codes, .int c_p1_count])), (h_p1_codes, .inl (tc.1, 24, .inl c_p1_codes))]) := by
  refine ctV_of (lv0 := [(0, .ref h_), (1, .ref h_p1)]) (by decide +kernel) (Nat.le_of_ble_eq_true rfl) rfl (fun X C => ?_)
  unfold fX7_computeFollow
  refine j_const C d7_computeFollow_0 ?_
  refine j_istore C d7_computeFollow_1 (by decide) (lv' := [(2, .int 1), (0, .ref h_), (1, .ref h_p1)]) rfl ?_
  refine j_const C d7_computeFollow_2 ?_
  refine j_istore C d7_computeFollow_3 (by decide) (lv' := [(3, .int 0), (2, .int 1), (0, .ref h_), (1, .ref h_p1)]) rfl ?_
  refine j_join 65 (fun v1 => [(h_, .inr (7, [.int c_nullable, .ref h_first, .ref h_follow, g_begins])), (h_first, .inl (tc.1, 8, .inl c_first)), (h_follow, .inl (tc.1, 8, .inl v1)), (h_p1, .inr (6, [.ref h_p1_codes, .int c_p1_count])), (h_p1_codes, .inl (tc.1, 24, .inl c_p1_codes))]) (fun v1 => []) (fun v1 => []) (fun v1 => ?_) (fun k2 hk2 => ?_)
  · exact j_vret C d7_computeFollow_65 rfl
  · exact j_sub [2, 3, 1, 0] rfl (j_loop3 (fun v3 v4 v5 => [(h_, .inr (7, [.int c_nullable, .ref h_first, .ref h_follow, g_begins])), (h_first, .inl (tc.1, 8, .inl c_first)), (h_follow, .inl (tc.1, 8, .inl v5)), (h_p1, .inr (6, [.ref h_p1_codes, .int c_p1_count])), (h_p1_codes, .inl (tc.1, 24, .inl c_p1_codes))]) (fun v3 v4 v5 => [(0, .ref h_), (1, .ref h_p1), (2, .int v3), (3, .int v4)]) (fun rc6 hrc6 v3 v4 v5 => wX7_computeFollow_4 C N h_ h_first h_follow h_p1 h_p1_codes g_begins c_nullable c_first c_p1_codes c_p1_count k2 hk2 rc6 hrc6 v3 v4 v5) N _ _ _)

theorem d7_compute_0 : jda cX7_compute 0 0 1 := Or.inl ⟨0, by decide +kernel⟩
theorem d7_compute_1 : jdk cX7_compute 1 0 2 := Or.inl ⟨0, by decide +kernel⟩
theorem d7_compute_2 : jd cX7_compute 2 (.putfield 21) 3 5 := by decide +kernel
theorem d7_compute_5 : jdk cX7_compute 5 0 6 := Or.inl ⟨0, by decide +kernel⟩
theorem d7_compute_6 : jds cX7_compute 6 2 7 := Or.inl ⟨2, by decide +kernel⟩
theorem d7_compute_7 : jdi cX7_compute 7 2 8 := Or.inl ⟨2, by decide +kernel⟩
theorem d7_compute_8 : jdk cX7_compute 8 8 10 := Or.inr (Or.inl ⟨8, by decide +kernel⟩)
theorem d7_compute_10 : jdb cX7_compute 10 (.if_icmp .ge 23) 23 33 13 := by decide +kernel
theorem d7_compute_13 : jda cX7_compute 13 0 14 := Or.inl ⟨0, by decide +kernel⟩
theorem d7_compute_14 : jd cX7_compute 14 (.getfield 9) 3 17 := by decide +kernel
theorem d7_compute_17 : jdi cX7_compute 17 2 18 := Or.inl ⟨2, by decide +kernel⟩
theorem d7_compute_18 : jdk cX7_compute 18 0 19 := Or.inl ⟨0, by decide +kernel⟩
theorem d7_compute_19 : jd cX7_compute 19 (.iastore) 1 20 := by decide +kernel
theorem d7_compute_20 : jda cX7_compute 20 0 21 := Or.inl ⟨0, by decide +kernel⟩
theorem d7_compute_21 : jd cX7_compute 21 (.getfield 15) 3 24 := by decide +kernel
theorem d7_compute_24 : jdi cX7_compute 24 2 25 := Or.inl ⟨2, by decide +kernel⟩
theorem d7_compute_25 : jdk cX7_compute 25 0 26 := Or.inl ⟨0, by decide +kernel⟩
theorem d7_compute_26 : jd cX7_compute 26 (.iastore) 1 27 := by decide +kernel
theorem d7_compute_27 : jd cX7_compute 27 (.iinc 2 1) 3 30 := by decide +kernel
theorem d7_compute_30 : jdb cX7_compute 30 (.goto (-23)) (-23) 7 33 := by decide +kernel
theorem d7_compute_33 : jda cX7_compute 33 0 34 := Or.inl ⟨0, by decide +kernel⟩
theorem d7_compute_34 : jd cX7_compute 34 (.getfield 15) 3 37 := by decide +kernel
theorem d7_compute_37 : jdk cX7_compute 37 0 38 := Or.inl ⟨0, by decide +kernel⟩
theorem d7_compute_38 : jdk cX7_compute 38 256 41 := Or.inr (Or.inr ⟨256, by decide +kernel⟩)
theorem d7_compute_41 : jd cX7_compute 41 (.iastore) 1 42 := by decide +kernel
theorem d7_compute_42 : jda cX7_compute 42 0 43 := Or.inl ⟨0, by decide +kernel⟩
theorem d7_compute_43 : jda cX7_compute 43 1 44 := Or.inl ⟨1, by decide +kernel⟩
theorem d7_compute_44 : jd cX7_compute 44 (.invokevirtual 35) 3 47 := by decide +kernel
theorem d7_compute_47 : jda cX7_compute 47 0 48 := Or.inl ⟨0, by decide +kernel⟩
theorem d7_compute_48 : jda cX7_compute 48 1 49 := Or.inl ⟨1, by decide +kernel⟩
theorem d7_compute_49 : jd cX7_compute 49 (.invokevirtual 39) 3 52 := by decide +kernel
theorem d7_compute_52 : jda cX7_compute 52 0 53 := Or.inl ⟨0, by decide +kernel⟩
theorem d7_compute_53 : jda cX7_compute 53 1 54 := Or.inl ⟨1, by decide +kernel⟩
theorem d7_compute_54 : jd cX7_compute 54 (.invokevirtual 42) 3 57 := by decide +kernel
theorem d7_compute_57 : decode cX7_compute 57 = .ok (.return_, 1) := by decide +kernel
set_option maxHeartbeats 4000000 in
set_option maxRecDepth 100000 in
theorem wX7_compute_7 {X : jC} {tc : jTC} (C : jx X cX7_compute 3 RX7 none tc ({ frames := 4, cells := 0, slots := 0, locals := 92 } : Room)) (h_ h_first h_follow h_p1 h_p1_codes : Nat) (g_begins : Value) (c_p1_codes : (Nat → Int32)) (c_p1_count : Int32) (k7 : ((Nat → Int32) → (Nat → Int32) → Option (Int32 × (Nat → Int32) × (Nat → Int32)))) (hk7 : ∀ (v15 : (Nat → Int32)) (v16 : (Nat → Int32)), jo X 3 (0, 0) (jQV X (fun (u : Int32 × (Nat → Int32) × (Nat → Int32)) => [(h_, .inr (7, [.int u.1, .ref h_first, .ref h_follow, g_begins])), (h_first, .inl (tc.1, 8, .inl u.2.1)), (h_follow, .inl (tc.1, 8, .inl u.2.2)), (h_p1, .inr (6, [.ref h_p1_codes, .int c_p1_count])), (h_p1_codes, .inl (tc.1, 24, .inl c_p1_codes))])) (k7 v15 v16) [(h_, .inr (7, [.int 0, .ref h_first, .ref h_follow, g_begins])), (h_first, .inl (tc.1, 8, .inl v15)), (h_follow, .inl (tc.1, 8, .inl v16)), (h_p1, .inr (6, [.ref h_p1_codes, .int c_p1_count])), (h_p1_codes, .inl (tc.1, 24, .inl c_p1_codes))] 33 [(0, .ref h_), (1, .ref h_p1)] []) (rc11 : Int32 → (Nat → Int32) → (Nat → Int32) → Option (Int32 × (Nat → Int32) × (Nat → Int32))) (hrc11 : ∀ (v8 : Int32) (v9 : (Nat → Int32)) (v10 : (Nat → Int32)), jo X 3 (0, 0) (jQV X (fun (u : Int32 × (Nat → Int32) × (Nat → Int32)) => [(h_, .inr (7, [.int u.1, .ref h_first, .ref h_follow, g_begins])), (h_first, .inl (tc.1, 8, .inl u.2.1)), (h_follow, .inl (tc.1, 8, .inl u.2.2)), (h_p1, .inr (6, [.ref h_p1_codes, .int c_p1_count])), (h_p1_codes, .inl (tc.1, 24, .inl c_p1_codes))])) (rc11 v8 v9 v10) [(h_, .inr (7, [.int 0, .ref h_first, .ref h_follow, g_begins])), (h_first, .inl (tc.1, 8, .inl v9)), (h_follow, .inl (tc.1, 8, .inl v10)), (h_p1, .inr (6, [.ref h_p1_codes, .int c_p1_count])), (h_p1_codes, .inl (tc.1, 24, .inl c_p1_codes))] 7 [(0, .ref h_), (1, .ref h_p1), (2, .int v8)] []) (v8 : Int32) (v9 : (Nat → Int32)) (v10 : (Nat → Int32)) : jo X 3 (0, 0) (jQV X (fun (u : Int32 × (Nat → Int32) × (Nat → Int32)) => [(h_, .inr (7, [.int u.1, .ref h_first, .ref h_follow, g_begins])), (h_first, .inl (tc.1, 8, .inl u.2.1)), (h_follow, .inl (tc.1, 8, .inl u.2.2)), (h_p1, .inr (6, [.ref h_p1_codes, .int c_p1_count])), (h_p1_codes, .inl (tc.1, 24, .inl c_p1_codes))])) (bX7_compute_7 k7 rc11 v8 v9 v10) [(h_, .inr (7, [.int 0, .ref h_first, .ref h_follow, g_begins])), (h_first, .inl (tc.1, 8, .inl v9)), (h_follow, .inl (tc.1, 8, .inl v10)), (h_p1, .inr (6, [.ref h_p1_codes, .int c_p1_count])), (h_p1_codes, .inl (tc.1, 24, .inl c_p1_codes))] 7 [(0, .ref h_), (1, .ref h_p1), (2, .int v8)] [] := by
  unfold bX7_compute_7
  refine j_iload C d7_compute_7 2 rfl ?_
  refine j_const C d7_compute_8 ?_
  refine j_icmp_ge C d7_compute_10 ?_ ?_
  · exact j_sub [0, 1] rfl (hk7 _ _)
  · refine j_aload C d7_compute_13 0 rfl ?_
    refine j_get C d7_compute_14 fl7_9 0 rfl rfl ?_
    refine j_iload C d7_compute_17 2 rfl ?_
    refine j_const C d7_compute_18 ?_
    refine j_iast C (fun f12 => [(h_, .inr (7, [.int 0, .ref h_first, .ref h_follow, g_begins])), (h_first, .inl (tc.1, 8, .inl f12)), (h_follow, .inl (tc.1, 8, .inl v10)), (h_p1, .inr (6, [.ref h_p1_codes, .int c_p1_count])), (h_p1_codes, .inl (tc.1, 24, .inl c_p1_codes))]) d7_compute_19 1 rfl (fun _ => rfl) (fun f12 => ?_)
    refine j_aload C d7_compute_20 0 rfl ?_
    refine j_get C d7_compute_21 fl7_15 0 rfl rfl ?_
    refine j_iload C d7_compute_24 2 rfl ?_
    refine j_const C d7_compute_25 ?_
    refine j_iast C (fun f13 => [(h_, .inr (7, [.int 0, .ref h_first, .ref h_follow, g_begins])), (h_first, .inl (tc.1, 8, .inl f12)), (h_follow, .inl (tc.1, 8, .inl f13)), (h_p1, .inr (6, [.ref h_p1_codes, .int c_p1_count])), (h_p1_codes, .inl (tc.1, 24, .inl c_p1_codes))]) d7_compute_26 2 rfl (fun _ => rfl) (fun f13 => ?_)
    refine j_iincN C (fun x14 => [(2, .int x14), (0, .ref h_), (1, .ref h_p1)]) d7_compute_27 2 rfl (by decide +kernel) (by decide) (fun _ => rfl) (fun x14 => ?_)
    refine j_goto C d7_compute_30 ?_
    exact j_sub [1, 2, 0] rfl (hrc11 _ _ _)

set_option maxHeartbeats 4000000 in
set_option maxRecDepth 100000 in
theorem kX7_compute (l : Launch) (D : va_G) (tc : jTC) (N : Nat) (h_ h_first h_follow h_p1 h_p1_codes : Nat) (g_begins : Value) (c_nullable : Int32) (c_first : (Nat → Int32)) (c_follow : (Nat → Int32)) (c_p1_codes : (Nat → Int32)) (c_p1_count : Int32) : ctV l D tc yX7_compute (Cond.code yX7_compute cX7_compute 3 none :: jtb) ({ frames := 4, cells := 0, slots := 0, locals := 92 } : Room) [.ref h_, .ref h_p1] [(h_, .inr (7, [.int c_nullable, .ref h_first, .ref h_follow, g_begins])), (h_first, .inl (tc.1, 8, .inl c_first)), (h_follow, .inl (tc.1, 8, .inl c_follow)), (h_p1, .inr (6, [.ref h_p1_codes, .int c_p1_count])), (h_p1_codes, .inl (tc.1, 24, .inl c_p1_codes))] (fX7_compute N c_nullable c_first c_follow c_p1_codes c_p1_count) (fun (u : Int32 × (Nat → Int32) × (Nat → Int32)) => [(h_, .inr (7, [.int u.1, .ref h_first, .ref h_follow, g_begins])), (h_first, .inl (tc.1, 8, .inl u.2.1)), (h_follow, .inl (tc.1, 8, .inl u.2.2)), (h_p1, .inr (6, [.ref h_p1_codes, .int c_p1_count])), (h_p1_codes, .inl (tc.1, 24, .inl c_p1_codes))]) := by
  refine ctV_of (lv0 := [(0, .ref h_), (1, .ref h_p1)]) (by decide +kernel) (Nat.le_of_ble_eq_true rfl) rfl (fun X C => ?_)
  unfold fX7_compute
  refine j_aload C d7_compute_0 0 rfl ?_
  refine j_const C d7_compute_1 ?_
  refine j_putq C d7_compute_2 fq7_21 0 rfl rfl rfl (Nat.le_of_ble_eq_true rfl) (ws' := [(h_, .inr (7, [.int 0, .ref h_first, .ref h_follow, g_begins])), (h_first, .inl (tc.1, 8, .inl c_first)), (h_follow, .inl (tc.1, 8, .inl c_follow)), (h_p1, .inr (6, [.ref h_p1_codes, .int c_p1_count])), (h_p1_codes, .inl (tc.1, 24, .inl c_p1_codes))]) rfl ?_
  refine j_const C d7_compute_5 ?_
  refine j_istore C d7_compute_6 (by decide) (lv' := [(2, .int 0), (0, .ref h_), (1, .ref h_p1)]) rfl ?_
  refine j_join2 33 (fun v1 v2 => [(h_, .inr (7, [.int 0, .ref h_first, .ref h_follow, g_begins])), (h_first, .inl (tc.1, 8, .inl v1)), (h_follow, .inl (tc.1, 8, .inl v2)), (h_p1, .inr (6, [.ref h_p1_codes, .int c_p1_count])), (h_p1_codes, .inl (tc.1, 24, .inl c_p1_codes))]) (fun v1 v2 => [(0, .ref h_), (1, .ref h_p1)]) (fun v1 v2 => []) (fun v1 v2 => ?_) (fun k7 hk7 => ?_)
  · refine j_aload C d7_compute_33 0 rfl ?_
    refine j_get C d7_compute_34 fl7_15 0 rfl rfl ?_
    refine j_const C d7_compute_37 ?_
    refine j_const C d7_compute_38 ?_
    refine j_iast C (fun f3 => [(h_, .inr (7, [.int 0, .ref h_first, .ref h_follow, g_begins])), (h_first, .inl (tc.1, 8, .inl v1)), (h_follow, .inl (tc.1, 8, .inl f3)), (h_p1, .inr (6, [.ref h_p1_codes, .int c_p1_count])), (h_p1_codes, .inl (tc.1, 24, .inl c_p1_codes))]) d7_compute_41 2 rfl (fun _ => rfl) (fun f3 => ?_)
    refine j_aload C d7_compute_42 0 rfl ?_
    refine j_aload C d7_compute_43 1 rfl ?_
    refine j_callVV (As := [.ref h_p1]) C d7_compute_44 mv7_35 (kX7_computeNullable _ _ tc N h_ h_p1 h_p1_codes (.ref h_first) (.ref h_follow) g_begins 0 c_p1_codes c_p1_count) ⟨rfl, rfl, Nat.le_of_ble_eq_true rfl, Nat.le_of_ble_eq_true rfl⟩ rfl 0 rfl [0, 3, 4] rfl rfl rfl (Nat.le_of_ble_eq_true rfl) (fun o4 => [(h_, .inr (7, [.int o4, .ref h_first, .ref h_follow, g_begins])), (h_first, .inl (tc.1, 8, .inl v1)), (h_follow, .inl (tc.1, 8, .inl f3)), (h_p1, .inr (6, [.ref h_p1_codes, .int c_p1_count])), (h_p1_codes, .inl (tc.1, 24, .inl c_p1_codes))]) [(true, 0), (false, 1), (false, 2), (true, 1), (true, 2)] (fun _ => rfl) (by decide +kernel) (fun o4 => ?_)
    refine j_aload C d7_compute_47 0 rfl ?_
    refine j_aload C d7_compute_48 1 rfl ?_
    refine j_callVV (As := [.ref h_p1]) C d7_compute_49 mv7_39 (kX7_computeFirst _ _ tc N h_ h_first h_p1 h_p1_codes (.ref h_follow) g_begins o4 v1 c_p1_codes c_p1_count) ⟨rfl, rfl, Nat.le_of_ble_eq_true rfl, Nat.le_of_ble_eq_true rfl⟩ rfl 0 rfl [0, 1, 3, 4] rfl rfl rfl (Nat.le_of_ble_eq_true rfl) (fun o5 => [(h_, .inr (7, [.int o4, .ref h_first, .ref h_follow, g_begins])), (h_first, .inl (tc.1, 8, .inl o5)), (h_follow, .inl (tc.1, 8, .inl f3)), (h_p1, .inr (6, [.ref h_p1_codes, .int c_p1_count])), (h_p1_codes, .inl (tc.1, 24, .inl c_p1_codes))]) [(true, 0), (true, 1), (false, 2), (true, 2), (true, 3)] (fun _ => rfl) (by decide +kernel) (fun o5 => ?_)
    refine j_aload C d7_compute_52 0 rfl ?_
    refine j_aload C d7_compute_53 1 rfl ?_
    refine j_callVV (As := [.ref h_p1]) C d7_compute_54 mv7_42 (kX7_computeFollow _ _ tc N h_ h_first h_follow h_p1 h_p1_codes g_begins o4 o5 f3 c_p1_codes c_p1_count) ⟨rfl, rfl, Nat.le_of_ble_eq_true rfl, Nat.le_of_ble_eq_true rfl⟩ rfl 0 rfl [0, 1, 2, 3, 4] rfl rfl rfl (Nat.le_of_ble_eq_true rfl) (fun o6 => [(h_, .inr (7, [.int o4, .ref h_first, .ref h_follow, g_begins])), (h_first, .inl (tc.1, 8, .inl o5)), (h_follow, .inl (tc.1, 8, .inl o6)), (h_p1, .inr (6, [.ref h_p1_codes, .int c_p1_count])), (h_p1_codes, .inl (tc.1, 24, .inl c_p1_codes))]) [(true, 0), (true, 1), (true, 2), (true, 3), (true, 4)] (fun _ => rfl) (by decide +kernel) (fun o6 => ?_)
    exact j_vret C d7_compute_57 rfl
  · exact j_sub [1, 2, 0] rfl (j_loop3 (fun v8 v9 v10 => [(h_, .inr (7, [.int 0, .ref h_first, .ref h_follow, g_begins])), (h_first, .inl (tc.1, 8, .inl v9)), (h_follow, .inl (tc.1, 8, .inl v10)), (h_p1, .inr (6, [.ref h_p1_codes, .int c_p1_count])), (h_p1_codes, .inl (tc.1, 24, .inl c_p1_codes))]) (fun v8 v9 v10 => [(0, .ref h_), (1, .ref h_p1), (2, .int v8)]) (fun rc11 hrc11 v8 v9 v10 => wX7_compute_7 C h_ h_first h_follow h_p1 h_p1_codes g_begins c_p1_codes c_p1_count k7 hk7 rc11 hrc11 v8 v9 v10) N _ _ _)

theorem d7_productiveOnes_0 : jdk cX7_productiveOnes 0 0 1 := Or.inl ⟨0, by decide +kernel⟩
theorem d7_productiveOnes_1 : jds cX7_productiveOnes 1 2 2 := Or.inl ⟨2, by decide +kernel⟩
theorem d7_productiveOnes_2 : jdk cX7_productiveOnes 2 1 3 := Or.inl ⟨1, by decide +kernel⟩
theorem d7_productiveOnes_3 : jds cX7_productiveOnes 3 3 4 := Or.inl ⟨3, by decide +kernel⟩
theorem d7_productiveOnes_4 : jdk cX7_productiveOnes 4 0 5 := Or.inl ⟨0, by decide +kernel⟩
theorem d7_productiveOnes_5 : jds cX7_productiveOnes 5 4 7 := Or.inr (by decide +kernel)
theorem d7_productiveOnes_7 : jdi cX7_productiveOnes 7 4 9 := Or.inr (by decide +kernel)
theorem d7_productiveOnes_9 : jdk cX7_productiveOnes 9 1000 12 := Or.inr (Or.inr ⟨1000, by decide +kernel⟩)
theorem d7_productiveOnes_12 : jdb cX7_productiveOnes 12 (.if_icmp .ge 77) 77 89 15 := by decide +kernel
theorem d7_productiveOnes_15 : jdi cX7_productiveOnes 15 3 16 := Or.inl ⟨3, by decide +kernel⟩
theorem d7_productiveOnes_16 : jdb cX7_productiveOnes 16 (.ifCond .eq 73) 73 89 19 := by decide +kernel
theorem d7_productiveOnes_19 : jdi cX7_productiveOnes 19 2 20 := Or.inl ⟨2, by decide +kernel⟩
theorem d7_productiveOnes_20 : jds cX7_productiveOnes 20 5 22 := Or.inr (by decide +kernel)
theorem d7_productiveOnes_22 : jdk cX7_productiveOnes 22 0 23 := Or.inl ⟨0, by decide +kernel⟩
theorem d7_productiveOnes_23 : jds cX7_productiveOnes 23 6 25 := Or.inr (by decide +kernel)
theorem d7_productiveOnes_25 : jdi cX7_productiveOnes 25 6 27 := Or.inr (by decide +kernel)
theorem d7_productiveOnes_27 : jda cX7_productiveOnes 27 1 28 := Or.inl ⟨1, by decide +kernel⟩
theorem d7_productiveOnes_28 : jd cX7_productiveOnes 28 (.getfield 45) 3 31 := by decide +kernel
theorem d7_productiveOnes_31 : jdb cX7_productiveOnes 31 (.if_icmp .ge 40) 40 71 34 := by decide +kernel
theorem d7_productiveOnes_34 : jda cX7_productiveOnes 34 1 35 := Or.inl ⟨1, by decide +kernel⟩
theorem d7_productiveOnes_35 : jd cX7_productiveOnes 35 (.getfield 50) 3 38 := by decide +kernel
theorem d7_productiveOnes_38 : jdi cX7_productiveOnes 38 6 40 := Or.inr (by decide +kernel)
theorem d7_productiveOnes_40 : jd cX7_productiveOnes 40 (.iaload) 1 41 := by decide +kernel
theorem d7_productiveOnes_41 : jds cX7_productiveOnes 41 7 43 := Or.inr (by decide +kernel)
theorem d7_productiveOnes_43 : jdi cX7_productiveOnes 43 7 45 := Or.inr (by decide +kernel)
theorem d7_productiveOnes_45 : jd cX7_productiveOnes 45 (.invokestatic 80) 3 48 := by decide +kernel
theorem d7_productiveOnes_48 : jdi cX7_productiveOnes 48 2 49 := Or.inl ⟨2, by decide +kernel⟩
theorem d7_productiveOnes_49 : jdk cX7_productiveOnes 49 (-1) 50 := Or.inl ⟨(-1), by decide +kernel⟩
theorem d7_productiveOnes_50 : jd cX7_productiveOnes 50 (.ixor) 1 51 := by decide +kernel
theorem d7_productiveOnes_51 : jd cX7_productiveOnes 51 (.iand) 1 52 := by decide +kernel
theorem d7_productiveOnes_52 : jdb cX7_productiveOnes 52 (.ifCond .ne 13) 13 65 55 := by decide +kernel
theorem d7_productiveOnes_55 : jdi cX7_productiveOnes 55 2 56 := Or.inl ⟨2, by decide +kernel⟩
theorem d7_productiveOnes_56 : jdk cX7_productiveOnes 56 1 57 := Or.inl ⟨1, by decide +kernel⟩
theorem d7_productiveOnes_57 : jdi cX7_productiveOnes 57 7 59 := Or.inr (by decide +kernel)
theorem d7_productiveOnes_59 : jd cX7_productiveOnes 59 (.invokestatic 57) 3 62 := by decide +kernel
theorem d7_productiveOnes_62 : jd cX7_productiveOnes 62 (.ishl) 1 63 := by decide +kernel
theorem d7_productiveOnes_63 : jd cX7_productiveOnes 63 (.ior) 1 64 := by decide +kernel
theorem d7_productiveOnes_64 : jds cX7_productiveOnes 64 2 65 := Or.inl ⟨2, by decide +kernel⟩
theorem d7_productiveOnes_65 : jd cX7_productiveOnes 65 (.iinc 6 1) 3 68 := by decide +kernel
theorem d7_productiveOnes_68 : jdb cX7_productiveOnes 68 (.goto (-43)) (-43) 25 71 := by decide +kernel
theorem d7_productiveOnes_71 : jdi cX7_productiveOnes 71 2 72 := Or.inl ⟨2, by decide +kernel⟩
theorem d7_productiveOnes_72 : jdi cX7_productiveOnes 72 5 74 := Or.inr (by decide +kernel)
theorem d7_productiveOnes_74 : jdb cX7_productiveOnes 74 (.if_icmp .eq 7) 7 81 77 := by decide +kernel
theorem d7_productiveOnes_77 : jdk cX7_productiveOnes 77 1 78 := Or.inl ⟨1, by decide +kernel⟩
theorem d7_productiveOnes_78 : jdb cX7_productiveOnes 78 (.goto 4) 4 82 81 := by decide +kernel
theorem d7_productiveOnes_81 : jdk cX7_productiveOnes 81 0 82 := Or.inl ⟨0, by decide +kernel⟩
theorem d7_productiveOnes_82 : jds cX7_productiveOnes 82 3 83 := Or.inl ⟨3, by decide +kernel⟩
theorem d7_productiveOnes_83 : jd cX7_productiveOnes 83 (.iinc 4 1) 3 86 := by decide +kernel
theorem d7_productiveOnes_86 : jdb cX7_productiveOnes 86 (.goto (-79)) (-79) 7 89 := by decide +kernel
theorem d7_productiveOnes_89 : jdi cX7_productiveOnes 89 2 90 := Or.inl ⟨2, by decide +kernel⟩
theorem d7_productiveOnes_90 : decode cX7_productiveOnes 90 = .ok (.ireturn, 1) := by decide +kernel
set_option maxHeartbeats 4000000 in
set_option maxRecDepth 100000 in
theorem wX7_productiveOnes_25 {X : jC} {tc : jTC} (C : jx X cX7_productiveOnes 8 RX7 (some .int) tc ({ frames := 2, cells := 0, slots := 0, locals := 44 } : Room)) (N : Nat) (h_ h_p1 h_p1_codes : Nat) (g_nullable g_first g_follow g_begins : Value) (c_p1_codes : (Nat → Int32)) (c_p1_count : Int32) (v3 : Int32) (v5 : Int32) (k11 : (Int32 → Option (Int32))) (hk11 : ∀ (v22 : Int32), jo X 8 (0, 0) (jQI0 X [(h_, .inr (7, [g_nullable, g_first, g_follow, g_begins])), (h_p1, .inr (6, [.ref h_p1_codes, .int c_p1_count])), (h_p1_codes, .inl (tc.1, 24, .inl c_p1_codes))]) (k11 v22) [(h_, .inr (7, [g_nullable, g_first, g_follow, g_begins])), (h_p1, .inr (6, [.ref h_p1_codes, .int c_p1_count])), (h_p1_codes, .inl (tc.1, 24, .inl c_p1_codes))] 71 [(1, .ref h_p1), (2, .int v22), (4, .int v5), (5, .int v3)] []) (rc14 : Int32 → Int32 → Option (Int32)) (hrc14 : ∀ (v12 : Int32) (v13 : Int32), jo X 8 (0, 0) (jQI0 X [(h_, .inr (7, [g_nullable, g_first, g_follow, g_begins])), (h_p1, .inr (6, [.ref h_p1_codes, .int c_p1_count])), (h_p1_codes, .inl (tc.1, 24, .inl c_p1_codes))]) (rc14 v12 v13) [(h_, .inr (7, [g_nullable, g_first, g_follow, g_begins])), (h_p1, .inr (6, [.ref h_p1_codes, .int c_p1_count])), (h_p1_codes, .inl (tc.1, 24, .inl c_p1_codes))] 25 [(1, .ref h_p1), (2, .int v12), (4, .int v5), (5, .int v3), (6, .int v13)] []) (v12 : Int32) (v13 : Int32) : jo X 8 (0, 0) (jQI0 X [(h_, .inr (7, [g_nullable, g_first, g_follow, g_begins])), (h_p1, .inr (6, [.ref h_p1_codes, .int c_p1_count])), (h_p1_codes, .inl (tc.1, 24, .inl c_p1_codes))]) (bX7_productiveOnes_25 N c_p1_codes c_p1_count k11 rc14 v12 v13) [(h_, .inr (7, [g_nullable, g_first, g_follow, g_begins])), (h_p1, .inr (6, [.ref h_p1_codes, .int c_p1_count])), (h_p1_codes, .inl (tc.1, 24, .inl c_p1_codes))] 25 [(1, .ref h_p1), (2, .int v12), (4, .int v5), (5, .int v3), (6, .int v13)] [] := by
  unfold bX7_productiveOnes_25
  refine j_iload C d7_productiveOnes_25 4 rfl ?_
  refine j_aload C d7_productiveOnes_27 0 rfl ?_
  refine j_get C d7_productiveOnes_28 fl7_45 1 rfl rfl ?_
  refine j_icmp_ge C d7_productiveOnes_31 ?_ ?_
  · exact j_sub [0, 1, 2, 3] rfl (hk11 _)
  · refine j_aload C d7_productiveOnes_34 0 rfl ?_
    refine j_get C d7_productiveOnes_35 fl7_50 1 rfl rfl ?_
    refine j_iload C d7_productiveOnes_38 4 rfl ?_
    refine j_iald C d7_productiveOnes_40 2 rfl (fun x15 => ?_)
    refine j_istore C d7_productiveOnes_41 (by decide) (lv' := [(7, .int x15), (1, .ref h_p1), (2, .int v12), (4, .int v5), (5, .int v3), (6, .int v13)]) rfl ?_
    refine j_iload C d7_productiveOnes_43 0 rfl ?_
    refine j_callSI0 (As := [.int x15]) C d7_productiveOnes_45 ms7_80 (kX6_nonterminalsIn _ _ tc N x15) ⟨rfl, rfl, Nat.le_of_ble_eq_true rfl, Nat.le_of_ble_eq_true rfl⟩ rfl [] rfl rfl rfl (Nat.le_of_ble_eq_true rfl) (fun x16 => ?_)
    refine j_iload C d7_productiveOnes_48 2 rfl ?_
    refine j_const C d7_productiveOnes_49 ?_
    refine j_ixor C d7_productiveOnes_50 ?_
    refine j_iand C d7_productiveOnes_51 ?_
    refine j_join 65 (fun v17 => [(h_, .inr (7, [g_nullable, g_first, g_follow, g_begins])), (h_p1, .inr (6, [.ref h_p1_codes, .int c_p1_count])), (h_p1_codes, .inl (tc.1, 24, .inl c_p1_codes))]) (fun v17 => [(1, .ref h_p1), (2, .int v17), (4, .int v5), (5, .int v3), (6, .int v13)]) (fun v17 => []) (fun v17 => ?_) (fun k19 hk19 => ?_)
    · refine j_iincN C (fun x18 => [(6, .int x18), (1, .ref h_p1), (2, .int v17), (4, .int v5), (5, .int v3)]) d7_productiveOnes_65 4 rfl (by decide +kernel) (by decide) (fun _ => rfl) (fun x18 => ?_)
      refine j_goto C d7_productiveOnes_68 ?_
      exact j_sub [1, 2, 3, 4, 0] rfl (hrc14 _ _)
    · refine j_if_ne C d7_productiveOnes_52 ?_ ?_
      · exact j_sub [1, 2, 3, 4, 5] rfl (hk19 _)
      · refine j_iload C d7_productiveOnes_55 2 rfl ?_
        refine j_const C d7_productiveOnes_56 ?_
        refine j_iload C d7_productiveOnes_57 0 rfl ?_
        refine j_callSI0 (As := [.int x15]) C d7_productiveOnes_59 ms7_57 (kX6_leftOf _ _ tc x15) ⟨rfl, rfl, Nat.le_of_ble_eq_true rfl, Nat.le_of_ble_eq_true rfl⟩ rfl [] rfl rfl rfl (Nat.le_of_ble_eq_true rfl) (fun x20 => ?_)
        refine j_ishl C d7_productiveOnes_62 ?_
        refine j_ior C d7_productiveOnes_63 ?_
        refine j_leti (fun x21 => ?_)
        refine j_istore C d7_productiveOnes_64 (by decide) (lv' := [(2, .int x21), (7, .int x15), (1, .ref h_p1), (4, .int v5), (5, .int v3), (6, .int v13)]) rfl ?_
        exact j_sub [2, 0, 3, 4, 5] rfl (hk19 _)

set_option maxHeartbeats 4000000 in
set_option maxRecDepth 100000 in
theorem wX7_productiveOnes_7 {X : jC} {tc : jTC} (C : jx X cX7_productiveOnes 8 RX7 (some .int) tc ({ frames := 2, cells := 0, slots := 0, locals := 44 } : Room)) (N : Nat) (h_ h_p1 h_p1_codes : Nat) (g_nullable g_first g_follow g_begins : Value) (c_p1_codes : (Nat → Int32)) (c_p1_count : Int32) (k2 : (Int32 → Option (Int32))) (hk2 : ∀ (v23 : Int32), jo X 8 (0, 0) (jQI0 X [(h_, .inr (7, [g_nullable, g_first, g_follow, g_begins])), (h_p1, .inr (6, [.ref h_p1_codes, .int c_p1_count])), (h_p1_codes, .inl (tc.1, 24, .inl c_p1_codes))]) (k2 v23) [(h_, .inr (7, [g_nullable, g_first, g_follow, g_begins])), (h_p1, .inr (6, [.ref h_p1_codes, .int c_p1_count])), (h_p1_codes, .inl (tc.1, 24, .inl c_p1_codes))] 89 [(2, .int v23)] []) (rc6 : Int32 → Int32 → Int32 → Option (Int32)) (hrc6 : ∀ (v3 : Int32) (v4 : Int32) (v5 : Int32), jo X 8 (0, 0) (jQI0 X [(h_, .inr (7, [g_nullable, g_first, g_follow, g_begins])), (h_p1, .inr (6, [.ref h_p1_codes, .int c_p1_count])), (h_p1_codes, .inl (tc.1, 24, .inl c_p1_codes))]) (rc6 v3 v4 v5) [(h_, .inr (7, [g_nullable, g_first, g_follow, g_begins])), (h_p1, .inr (6, [.ref h_p1_codes, .int c_p1_count])), (h_p1_codes, .inl (tc.1, 24, .inl c_p1_codes))] 7 [(1, .ref h_p1), (2, .int v3), (3, .int v4), (4, .int v5)] []) (v3 : Int32) (v4 : Int32) (v5 : Int32) : jo X 8 (0, 0) (jQI0 X [(h_, .inr (7, [g_nullable, g_first, g_follow, g_begins])), (h_p1, .inr (6, [.ref h_p1_codes, .int c_p1_count])), (h_p1_codes, .inl (tc.1, 24, .inl c_p1_codes))]) (bX7_productiveOnes_7 N c_p1_codes c_p1_count k2 rc6 v3 v4 v5) [(h_, .inr (7, [g_nullable, g_first, g_follow, g_begins])), (h_p1, .inr (6, [.ref h_p1_codes, .int c_p1_count])), (h_p1_codes, .inl (tc.1, 24, .inl c_p1_codes))] 7 [(1, .ref h_p1), (2, .int v3), (3, .int v4), (4, .int v5)] [] := by
  unfold bX7_productiveOnes_7
  refine j_iload C d7_productiveOnes_7 3 rfl ?_
  refine j_const C d7_productiveOnes_9 ?_
  refine j_icmp_ge C d7_productiveOnes_12 ?_ ?_
  · exact j_sub [1] rfl (hk2 _)
  · refine j_iload C d7_productiveOnes_15 2 rfl ?_
    refine j_if_eq C d7_productiveOnes_16 ?_ ?_
    · exact j_sub [1] rfl (hk2 _)
    · refine j_iload C d7_productiveOnes_19 1 rfl ?_
      refine j_istore C d7_productiveOnes_20 (by decide) (lv' := [(5, .int v3), (1, .ref h_p1), (2, .int v3), (3, .int v4), (4, .int v5)]) rfl ?_
      refine j_const C d7_productiveOnes_22 ?_
      refine j_istore C d7_productiveOnes_23 (by decide) (lv' := [(6, .int 0), (5, .int v3), (1, .ref h_p1), (2, .int v3), (3, .int v4), (4, .int v5)]) rfl ?_
      refine j_join 71 (fun v7 => [(h_, .inr (7, [g_nullable, g_first, g_follow, g_begins])), (h_p1, .inr (6, [.ref h_p1_codes, .int c_p1_count])), (h_p1_codes, .inl (tc.1, 24, .inl c_p1_codes))]) (fun v7 => [(1, .ref h_p1), (2, .int v7), (4, .int v5), (5, .int v3)]) (fun v7 => []) (fun v7 => ?_) (fun k11 hk11 => ?_)
      · refine j_iload C d7_productiveOnes_71 1 rfl ?_
        refine j_iload C d7_productiveOnes_72 3 rfl ?_
        refine j_join 82 (fun v8 => [(h_, .inr (7, [g_nullable, g_first, g_follow, g_begins])), (h_p1, .inr (6, [.ref h_p1_codes, .int c_p1_count])), (h_p1_codes, .inl (tc.1, 24, .inl c_p1_codes))]) (fun v8 => [(1, .ref h_p1), (2, .int v7), (4, .int v5)]) (fun v8 => [.int v8]) (fun v8 => ?_) (fun k10 hk10 => ?_)
        · refine j_istore C d7_productiveOnes_82 (by decide) (lv' := [(3, .int v8), (1, .ref h_p1), (2, .int v7), (4, .int v5)]) rfl ?_
          refine j_iincN C (fun x9 => [(4, .int x9), (3, .int v8), (1, .ref h_p1), (2, .int v7)]) d7_productiveOnes_83 3 rfl (by decide +kernel) (by decide) (fun _ => rfl) (fun x9 => ?_)
          refine j_goto C d7_productiveOnes_86 ?_
          exact j_sub [2, 3, 1, 0] rfl (hrc6 _ _ _)
        · refine j_icmp_eq C d7_productiveOnes_74 ?_ ?_
          · refine j_const C d7_productiveOnes_81 ?_
            exact j_sub [0, 1, 2] rfl (hk10 _)
          · refine j_const C d7_productiveOnes_77 ?_
            refine j_goto C d7_productiveOnes_78 ?_
            exact j_sub [0, 1, 2] rfl (hk10 _)
      · exact j_sub [2, 3, 5, 1, 0] rfl (j_loop2 (fun v12 v13 => [(h_, .inr (7, [g_nullable, g_first, g_follow, g_begins])), (h_p1, .inr (6, [.ref h_p1_codes, .int c_p1_count])), (h_p1_codes, .inl (tc.1, 24, .inl c_p1_codes))]) (fun v12 v13 => [(1, .ref h_p1), (2, .int v12), (4, .int v5), (5, .int v3), (6, .int v13)]) (fun rc14 hrc14 v12 v13 => wX7_productiveOnes_25 C N h_ h_p1 h_p1_codes g_nullable g_first g_follow g_begins c_p1_codes c_p1_count v3 v5 k11 hk11 rc14 hrc14 v12 v13) N _ _)

set_option maxHeartbeats 4000000 in
set_option maxRecDepth 100000 in
theorem kX7_productiveOnes (l : Launch) (D : va_G) (tc : jTC) (N : Nat) (h_ h_p1 h_p1_codes : Nat) (g_nullable g_first g_follow g_begins : Value) (c_p1_codes : (Nat → Int32)) (c_p1_count : Int32) : ctI0 l D tc yX7_productiveOnes (Cond.code yX7_productiveOnes cX7_productiveOnes 8 (some .int) :: jtb) ({ frames := 2, cells := 0, slots := 0, locals := 44 } : Room) [.ref h_, .ref h_p1] [(h_, .inr (7, [g_nullable, g_first, g_follow, g_begins])), (h_p1, .inr (6, [.ref h_p1_codes, .int c_p1_count])), (h_p1_codes, .inl (tc.1, 24, .inl c_p1_codes))] (fX7_productiveOnes N c_p1_codes c_p1_count) := by
  refine ctI0_of (lv0 := [(0, .ref h_), (1, .ref h_p1)]) (by decide +kernel) (Nat.le_of_ble_eq_true rfl) rfl (fun X C => ?_)
  unfold fX7_productiveOnes
  refine j_const C d7_productiveOnes_0 ?_
  refine j_istore C d7_productiveOnes_1 (by decide) (lv' := [(2, .int 0), (0, .ref h_), (1, .ref h_p1)]) rfl ?_
  refine j_const C d7_productiveOnes_2 ?_
  refine j_istore C d7_productiveOnes_3 (by decide) (lv' := [(3, .int 1), (2, .int 0), (0, .ref h_), (1, .ref h_p1)]) rfl ?_
  refine j_const C d7_productiveOnes_4 ?_
  refine j_istore C d7_productiveOnes_5 (by decide) (lv' := [(4, .int 0), (3, .int 1), (2, .int 0), (0, .ref h_), (1, .ref h_p1)]) rfl ?_
  refine j_join 89 (fun v1 => [(h_, .inr (7, [g_nullable, g_first, g_follow, g_begins])), (h_p1, .inr (6, [.ref h_p1_codes, .int c_p1_count])), (h_p1_codes, .inl (tc.1, 24, .inl c_p1_codes))]) (fun v1 => [(2, .int v1)]) (fun v1 => []) (fun v1 => ?_) (fun k2 hk2 => ?_)
  · refine j_iload C d7_productiveOnes_89 0 rfl ?_
    exact j_iret0 C d7_productiveOnes_90
  · exact j_sub [4, 2, 1, 0] rfl (j_loop3 (fun v3 v4 v5 => [(h_, .inr (7, [g_nullable, g_first, g_follow, g_begins])), (h_p1, .inr (6, [.ref h_p1_codes, .int c_p1_count])), (h_p1_codes, .inl (tc.1, 24, .inl c_p1_codes))]) (fun v3 v4 v5 => [(1, .ref h_p1), (2, .int v3), (3, .int v4), (4, .int v5)]) (fun rc6 hrc6 v3 v4 v5 => wX7_productiveOnes_7 C N h_ h_p1 h_p1_codes g_nullable g_first g_follow g_begins c_p1_codes c_p1_count k2 hk2 rc6 hrc6 v3 v4 v5) N _ _ _)

theorem d7_reachableOnes_0 : jdk cX7_reachableOnes 0 1 1 := Or.inl ⟨1, by decide +kernel⟩
theorem d7_reachableOnes_1 : jds cX7_reachableOnes 1 2 2 := Or.inl ⟨2, by decide +kernel⟩
theorem d7_reachableOnes_2 : jdk cX7_reachableOnes 2 1 3 := Or.inl ⟨1, by decide +kernel⟩
theorem d7_reachableOnes_3 : jds cX7_reachableOnes 3 3 4 := Or.inl ⟨3, by decide +kernel⟩
theorem d7_reachableOnes_4 : jdk cX7_reachableOnes 4 0 5 := Or.inl ⟨0, by decide +kernel⟩
theorem d7_reachableOnes_5 : jds cX7_reachableOnes 5 4 7 := Or.inr (by decide +kernel)
theorem d7_reachableOnes_7 : jdi cX7_reachableOnes 7 4 9 := Or.inr (by decide +kernel)
theorem d7_reachableOnes_9 : jdk cX7_reachableOnes 9 1000 12 := Or.inr (Or.inr ⟨1000, by decide +kernel⟩)
theorem d7_reachableOnes_12 : jdb cX7_reachableOnes 12 (.if_icmp .ge 76) 76 88 15 := by decide +kernel
theorem d7_reachableOnes_15 : jdi cX7_reachableOnes 15 3 16 := Or.inl ⟨3, by decide +kernel⟩
theorem d7_reachableOnes_16 : jdb cX7_reachableOnes 16 (.ifCond .eq 72) 72 88 19 := by decide +kernel
theorem d7_reachableOnes_19 : jdi cX7_reachableOnes 19 2 20 := Or.inl ⟨2, by decide +kernel⟩
theorem d7_reachableOnes_20 : jds cX7_reachableOnes 20 5 22 := Or.inr (by decide +kernel)
theorem d7_reachableOnes_22 : jdk cX7_reachableOnes 22 0 23 := Or.inl ⟨0, by decide +kernel⟩
theorem d7_reachableOnes_23 : jds cX7_reachableOnes 23 6 25 := Or.inr (by decide +kernel)
theorem d7_reachableOnes_25 : jdi cX7_reachableOnes 25 6 27 := Or.inr (by decide +kernel)
theorem d7_reachableOnes_27 : jda cX7_reachableOnes 27 1 28 := Or.inl ⟨1, by decide +kernel⟩
theorem d7_reachableOnes_28 : jd cX7_reachableOnes 28 (.getfield 45) 3 31 := by decide +kernel
theorem d7_reachableOnes_31 : jdb cX7_reachableOnes 31 (.if_icmp .ge 39) 39 70 34 := by decide +kernel
theorem d7_reachableOnes_34 : jda cX7_reachableOnes 34 1 35 := Or.inl ⟨1, by decide +kernel⟩
theorem d7_reachableOnes_35 : jd cX7_reachableOnes 35 (.getfield 50) 3 38 := by decide +kernel
theorem d7_reachableOnes_38 : jdi cX7_reachableOnes 38 6 40 := Or.inr (by decide +kernel)
theorem d7_reachableOnes_40 : jd cX7_reachableOnes 40 (.iaload) 1 41 := by decide +kernel
theorem d7_reachableOnes_41 : jds cX7_reachableOnes 41 7 43 := Or.inr (by decide +kernel)
theorem d7_reachableOnes_43 : jdi cX7_reachableOnes 43 2 44 := Or.inl ⟨2, by decide +kernel⟩
theorem d7_reachableOnes_44 : jdi cX7_reachableOnes 44 7 46 := Or.inr (by decide +kernel)
theorem d7_reachableOnes_46 : jd cX7_reachableOnes 46 (.invokestatic 57) 3 49 := by decide +kernel
theorem d7_reachableOnes_49 : jd cX7_reachableOnes 49 (.invokestatic 31) 3 52 := by decide +kernel
theorem d7_reachableOnes_52 : jdk cX7_reachableOnes 52 1 53 := Or.inl ⟨1, by decide +kernel⟩
theorem d7_reachableOnes_53 : jdb cX7_reachableOnes 53 (.if_icmp .ne 11) 11 64 56 := by decide +kernel
theorem d7_reachableOnes_56 : jdi cX7_reachableOnes 56 2 57 := Or.inl ⟨2, by decide +kernel⟩
theorem d7_reachableOnes_57 : jdi cX7_reachableOnes 57 7 59 := Or.inr (by decide +kernel)
theorem d7_reachableOnes_59 : jd cX7_reachableOnes 59 (.invokestatic 80) 3 62 := by decide +kernel
theorem d7_reachableOnes_62 : jd cX7_reachableOnes 62 (.ior) 1 63 := by decide +kernel
theorem d7_reachableOnes_63 : jds cX7_reachableOnes 63 2 64 := Or.inl ⟨2, by decide +kernel⟩
theorem d7_reachableOnes_64 : jd cX7_reachableOnes 64 (.iinc 6 1) 3 67 := by decide +kernel
theorem d7_reachableOnes_67 : jdb cX7_reachableOnes 67 (.goto (-42)) (-42) 25 70 := by decide +kernel
theorem d7_reachableOnes_70 : jdi cX7_reachableOnes 70 2 71 := Or.inl ⟨2, by decide +kernel⟩
theorem d7_reachableOnes_71 : jdi cX7_reachableOnes 71 5 73 := Or.inr (by decide +kernel)
theorem d7_reachableOnes_73 : jdb cX7_reachableOnes 73 (.if_icmp .eq 7) 7 80 76 := by decide +kernel
theorem d7_reachableOnes_76 : jdk cX7_reachableOnes 76 1 77 := Or.inl ⟨1, by decide +kernel⟩
theorem d7_reachableOnes_77 : jdb cX7_reachableOnes 77 (.goto 4) 4 81 80 := by decide +kernel
theorem d7_reachableOnes_80 : jdk cX7_reachableOnes 80 0 81 := Or.inl ⟨0, by decide +kernel⟩
theorem d7_reachableOnes_81 : jds cX7_reachableOnes 81 3 82 := Or.inl ⟨3, by decide +kernel⟩
theorem d7_reachableOnes_82 : jd cX7_reachableOnes 82 (.iinc 4 1) 3 85 := by decide +kernel
theorem d7_reachableOnes_85 : jdb cX7_reachableOnes 85 (.goto (-78)) (-78) 7 88 := by decide +kernel
theorem d7_reachableOnes_88 : jdi cX7_reachableOnes 88 2 89 := Or.inl ⟨2, by decide +kernel⟩
theorem d7_reachableOnes_89 : decode cX7_reachableOnes 89 = .ok (.ireturn, 1) := by decide +kernel
set_option maxHeartbeats 4000000 in
set_option maxRecDepth 100000 in
theorem wX7_reachableOnes_25 {X : jC} {tc : jTC} (C : jx X cX7_reachableOnes 8 RX7 (some .int) tc ({ frames := 2, cells := 0, slots := 0, locals := 44 } : Room)) (N : Nat) (h_ h_p1 h_p1_codes : Nat) (g_nullable g_first g_follow g_begins : Value) (c_p1_codes : (Nat → Int32)) (c_p1_count : Int32) (v3 : Int32) (v5 : Int32) (k11 : (Int32 → Option (Int32))) (hk11 : ∀ (v23 : Int32), jo X 8 (0, 0) (jQI0 X [(h_, .inr (7, [g_nullable, g_first, g_follow, g_begins])), (h_p1, .inr (6, [.ref h_p1_codes, .int c_p1_count])), (h_p1_codes, .inl (tc.1, 24, .inl c_p1_codes))]) (k11 v23) [(h_, .inr (7, [g_nullable, g_first, g_follow, g_begins])), (h_p1, .inr (6, [.ref h_p1_codes, .int c_p1_count])), (h_p1_codes, .inl (tc.1, 24, .inl c_p1_codes))] 70 [(1, .ref h_p1), (2, .int v23), (4, .int v5), (5, .int v3)] []) (rc14 : Int32 → Int32 → Option (Int32)) (hrc14 : ∀ (v12 : Int32) (v13 : Int32), jo X 8 (0, 0) (jQI0 X [(h_, .inr (7, [g_nullable, g_first, g_follow, g_begins])), (h_p1, .inr (6, [.ref h_p1_codes, .int c_p1_count])), (h_p1_codes, .inl (tc.1, 24, .inl c_p1_codes))]) (rc14 v12 v13) [(h_, .inr (7, [g_nullable, g_first, g_follow, g_begins])), (h_p1, .inr (6, [.ref h_p1_codes, .int c_p1_count])), (h_p1_codes, .inl (tc.1, 24, .inl c_p1_codes))] 25 [(1, .ref h_p1), (2, .int v12), (4, .int v5), (5, .int v3), (6, .int v13)] []) (v12 : Int32) (v13 : Int32) : jo X 8 (0, 0) (jQI0 X [(h_, .inr (7, [g_nullable, g_first, g_follow, g_begins])), (h_p1, .inr (6, [.ref h_p1_codes, .int c_p1_count])), (h_p1_codes, .inl (tc.1, 24, .inl c_p1_codes))]) (bX7_reachableOnes_25 N c_p1_codes c_p1_count k11 rc14 v12 v13) [(h_, .inr (7, [g_nullable, g_first, g_follow, g_begins])), (h_p1, .inr (6, [.ref h_p1_codes, .int c_p1_count])), (h_p1_codes, .inl (tc.1, 24, .inl c_p1_codes))] 25 [(1, .ref h_p1), (2, .int v12), (4, .int v5), (5, .int v3), (6, .int v13)] [] := by
  unfold bX7_reachableOnes_25
  refine j_iload C d7_reachableOnes_25 4 rfl ?_
  refine j_aload C d7_reachableOnes_27 0 rfl ?_
  refine j_get C d7_reachableOnes_28 fl7_45 1 rfl rfl ?_
  refine j_icmp_ge C d7_reachableOnes_31 ?_ ?_
  · exact j_sub [0, 1, 2, 3] rfl (hk11 _)
  · refine j_aload C d7_reachableOnes_34 0 rfl ?_
    refine j_get C d7_reachableOnes_35 fl7_50 1 rfl rfl ?_
    refine j_iload C d7_reachableOnes_38 4 rfl ?_
    refine j_iald C d7_reachableOnes_40 2 rfl (fun x15 => ?_)
    refine j_istore C d7_reachableOnes_41 (by decide) (lv' := [(7, .int x15), (1, .ref h_p1), (2, .int v12), (4, .int v5), (5, .int v3), (6, .int v13)]) rfl ?_
    refine j_iload C d7_reachableOnes_43 2 rfl ?_
    refine j_iload C d7_reachableOnes_44 0 rfl ?_
    refine j_callSI0 (As := [.int x15]) C d7_reachableOnes_46 ms7_57 (kX6_leftOf _ _ tc x15) ⟨rfl, rfl, Nat.le_of_ble_eq_true rfl, Nat.le_of_ble_eq_true rfl⟩ rfl [] rfl rfl rfl (Nat.le_of_ble_eq_true rfl) (fun x16 => ?_)
    refine j_callNI0 (As := [.int v12, .int x16]) C d7_reachableOnes_49 mn7_31 (kX11_bit _ _ tc v12 x16) ⟨rfl, rfl, Nat.le_of_ble_eq_true rfl, Nat.le_of_ble_eq_true rfl⟩ rfl [] rfl rfl rfl (Nat.le_of_ble_eq_true rfl) (fun x17 => ?_)
    refine j_const C d7_reachableOnes_52 ?_
    refine j_join 64 (fun v18 => [(h_, .inr (7, [g_nullable, g_first, g_follow, g_begins])), (h_p1, .inr (6, [.ref h_p1_codes, .int c_p1_count])), (h_p1_codes, .inl (tc.1, 24, .inl c_p1_codes))]) (fun v18 => [(1, .ref h_p1), (2, .int v18), (4, .int v5), (5, .int v3), (6, .int v13)]) (fun v18 => []) (fun v18 => ?_) (fun k20 hk20 => ?_)
    · refine j_iincN C (fun x19 => [(6, .int x19), (1, .ref h_p1), (2, .int v18), (4, .int v5), (5, .int v3)]) d7_reachableOnes_64 4 rfl (by decide +kernel) (by decide) (fun _ => rfl) (fun x19 => ?_)
      refine j_goto C d7_reachableOnes_67 ?_
      exact j_sub [1, 2, 3, 4, 0] rfl (hrc14 _ _)
    · refine j_icmp_ne C d7_reachableOnes_53 ?_ ?_
      · exact j_sub [1, 2, 3, 4, 5] rfl (hk20 _)
      · refine j_iload C d7_reachableOnes_56 2 rfl ?_
        refine j_iload C d7_reachableOnes_57 0 rfl ?_
        refine j_callSI0 (As := [.int x15]) C d7_reachableOnes_59 ms7_80 (kX6_nonterminalsIn _ _ tc N x15) ⟨rfl, rfl, Nat.le_of_ble_eq_true rfl, Nat.le_of_ble_eq_true rfl⟩ rfl [] rfl rfl rfl (Nat.le_of_ble_eq_true rfl) (fun x21 => ?_)
        refine j_ior C d7_reachableOnes_62 ?_
        refine j_leti (fun x22 => ?_)
        refine j_istore C d7_reachableOnes_63 (by decide) (lv' := [(2, .int x22), (7, .int x15), (1, .ref h_p1), (4, .int v5), (5, .int v3), (6, .int v13)]) rfl ?_
        exact j_sub [2, 0, 3, 4, 5] rfl (hk20 _)

set_option maxHeartbeats 4000000 in
set_option maxRecDepth 100000 in
theorem wX7_reachableOnes_7 {X : jC} {tc : jTC} (C : jx X cX7_reachableOnes 8 RX7 (some .int) tc ({ frames := 2, cells := 0, slots := 0, locals := 44 } : Room)) (N : Nat) (h_ h_p1 h_p1_codes : Nat) (g_nullable g_first g_follow g_begins : Value) (c_p1_codes : (Nat → Int32)) (c_p1_count : Int32) (k2 : (Int32 → Option (Int32))) (hk2 : ∀ (v24 : Int32), jo X 8 (0, 0) (jQI0 X [(h_, .inr (7, [g_nullable, g_first, g_follow, g_begins])), (h_p1, .inr (6, [.ref h_p1_codes, .int c_p1_count])), (h_p1_codes, .inl (tc.1, 24, .inl c_p1_codes))]) (k2 v24) [(h_, .inr (7, [g_nullable, g_first, g_follow, g_begins])), (h_p1, .inr (6, [.ref h_p1_codes, .int c_p1_count])), (h_p1_codes, .inl (tc.1, 24, .inl c_p1_codes))] 88 [(2, .int v24)] []) (rc6 : Int32 → Int32 → Int32 → Option (Int32)) (hrc6 : ∀ (v3 : Int32) (v4 : Int32) (v5 : Int32), jo X 8 (0, 0) (jQI0 X [(h_, .inr (7, [g_nullable, g_first, g_follow, g_begins])), (h_p1, .inr (6, [.ref h_p1_codes, .int c_p1_count])), (h_p1_codes, .inl (tc.1, 24, .inl c_p1_codes))]) (rc6 v3 v4 v5) [(h_, .inr (7, [g_nullable, g_first, g_follow, g_begins])), (h_p1, .inr (6, [.ref h_p1_codes, .int c_p1_count])), (h_p1_codes, .inl (tc.1, 24, .inl c_p1_codes))] 7 [(1, .ref h_p1), (2, .int v3), (3, .int v4), (4, .int v5)] []) (v3 : Int32) (v4 : Int32) (v5 : Int32) : jo X 8 (0, 0) (jQI0 X [(h_, .inr (7, [g_nullable, g_first, g_follow, g_begins])), (h_p1, .inr (6, [.ref h_p1_codes, .int c_p1_count])), (h_p1_codes, .inl (tc.1, 24, .inl c_p1_codes))]) (bX7_reachableOnes_7 N c_p1_codes c_p1_count k2 rc6 v3 v4 v5) [(h_, .inr (7, [g_nullable, g_first, g_follow, g_begins])), (h_p1, .inr (6, [.ref h_p1_codes, .int c_p1_count])), (h_p1_codes, .inl (tc.1, 24, .inl c_p1_codes))] 7 [(1, .ref h_p1), (2, .int v3), (3, .int v4), (4, .int v5)] [] := by
  unfold bX7_reachableOnes_7
  refine j_iload C d7_reachableOnes_7 3 rfl ?_
  refine j_const C d7_reachableOnes_9 ?_
  refine j_icmp_ge C d7_reachableOnes_12 ?_ ?_
  · exact j_sub [1] rfl (hk2 _)
  · refine j_iload C d7_reachableOnes_15 2 rfl ?_
    refine j_if_eq C d7_reachableOnes_16 ?_ ?_
    · exact j_sub [1] rfl (hk2 _)
    · refine j_iload C d7_reachableOnes_19 1 rfl ?_
      refine j_istore C d7_reachableOnes_20 (by decide) (lv' := [(5, .int v3), (1, .ref h_p1), (2, .int v3), (3, .int v4), (4, .int v5)]) rfl ?_
      refine j_const C d7_reachableOnes_22 ?_
      refine j_istore C d7_reachableOnes_23 (by decide) (lv' := [(6, .int 0), (5, .int v3), (1, .ref h_p1), (2, .int v3), (3, .int v4), (4, .int v5)]) rfl ?_
      refine j_join 70 (fun v7 => [(h_, .inr (7, [g_nullable, g_first, g_follow, g_begins])), (h_p1, .inr (6, [.ref h_p1_codes, .int c_p1_count])), (h_p1_codes, .inl (tc.1, 24, .inl c_p1_codes))]) (fun v7 => [(1, .ref h_p1), (2, .int v7), (4, .int v5), (5, .int v3)]) (fun v7 => []) (fun v7 => ?_) (fun k11 hk11 => ?_)
      · refine j_iload C d7_reachableOnes_70 1 rfl ?_
        refine j_iload C d7_reachableOnes_71 3 rfl ?_
        refine j_join 81 (fun v8 => [(h_, .inr (7, [g_nullable, g_first, g_follow, g_begins])), (h_p1, .inr (6, [.ref h_p1_codes, .int c_p1_count])), (h_p1_codes, .inl (tc.1, 24, .inl c_p1_codes))]) (fun v8 => [(1, .ref h_p1), (2, .int v7), (4, .int v5)]) (fun v8 => [.int v8]) (fun v8 => ?_) (fun k10 hk10 => ?_)
        · refine j_istore C d7_reachableOnes_81 (by decide) (lv' := [(3, .int v8), (1, .ref h_p1), (2, .int v7), (4, .int v5)]) rfl ?_
          refine j_iincN C (fun x9 => [(4, .int x9), (3, .int v8), (1, .ref h_p1), (2, .int v7)]) d7_reachableOnes_82 3 rfl (by decide +kernel) (by decide) (fun _ => rfl) (fun x9 => ?_)
          refine j_goto C d7_reachableOnes_85 ?_
          exact j_sub [2, 3, 1, 0] rfl (hrc6 _ _ _)
        · refine j_icmp_eq C d7_reachableOnes_73 ?_ ?_
          · refine j_const C d7_reachableOnes_80 ?_
            exact j_sub [0, 1, 2] rfl (hk10 _)
          · refine j_const C d7_reachableOnes_76 ?_
            refine j_goto C d7_reachableOnes_77 ?_
            exact j_sub [0, 1, 2] rfl (hk10 _)
      · exact j_sub [2, 3, 5, 1, 0] rfl (j_loop2 (fun v12 v13 => [(h_, .inr (7, [g_nullable, g_first, g_follow, g_begins])), (h_p1, .inr (6, [.ref h_p1_codes, .int c_p1_count])), (h_p1_codes, .inl (tc.1, 24, .inl c_p1_codes))]) (fun v12 v13 => [(1, .ref h_p1), (2, .int v12), (4, .int v5), (5, .int v3), (6, .int v13)]) (fun rc14 hrc14 v12 v13 => wX7_reachableOnes_25 C N h_ h_p1 h_p1_codes g_nullable g_first g_follow g_begins c_p1_codes c_p1_count v3 v5 k11 hk11 rc14 hrc14 v12 v13) N _ _)

set_option maxHeartbeats 4000000 in
set_option maxRecDepth 100000 in
theorem kX7_reachableOnes (l : Launch) (D : va_G) (tc : jTC) (N : Nat) (h_ h_p1 h_p1_codes : Nat) (g_nullable g_first g_follow g_begins : Value) (c_p1_codes : (Nat → Int32)) (c_p1_count : Int32) : ctI0 l D tc yX7_reachableOnes (Cond.code yX7_reachableOnes cX7_reachableOnes 8 (some .int) :: jtb) ({ frames := 2, cells := 0, slots := 0, locals := 44 } : Room) [.ref h_, .ref h_p1] [(h_, .inr (7, [g_nullable, g_first, g_follow, g_begins])), (h_p1, .inr (6, [.ref h_p1_codes, .int c_p1_count])), (h_p1_codes, .inl (tc.1, 24, .inl c_p1_codes))] (fX7_reachableOnes N c_p1_codes c_p1_count) := by
  refine ctI0_of (lv0 := [(0, .ref h_), (1, .ref h_p1)]) (by decide +kernel) (Nat.le_of_ble_eq_true rfl) rfl (fun X C => ?_)
  unfold fX7_reachableOnes
  refine j_const C d7_reachableOnes_0 ?_
  refine j_istore C d7_reachableOnes_1 (by decide) (lv' := [(2, .int 1), (0, .ref h_), (1, .ref h_p1)]) rfl ?_
  refine j_const C d7_reachableOnes_2 ?_
  refine j_istore C d7_reachableOnes_3 (by decide) (lv' := [(3, .int 1), (2, .int 1), (0, .ref h_), (1, .ref h_p1)]) rfl ?_
  refine j_const C d7_reachableOnes_4 ?_
  refine j_istore C d7_reachableOnes_5 (by decide) (lv' := [(4, .int 0), (3, .int 1), (2, .int 1), (0, .ref h_), (1, .ref h_p1)]) rfl ?_
  refine j_join 88 (fun v1 => [(h_, .inr (7, [g_nullable, g_first, g_follow, g_begins])), (h_p1, .inr (6, [.ref h_p1_codes, .int c_p1_count])), (h_p1_codes, .inl (tc.1, 24, .inl c_p1_codes))]) (fun v1 => [(2, .int v1)]) (fun v1 => []) (fun v1 => ?_) (fun k2 hk2 => ?_)
  · refine j_iload C d7_reachableOnes_88 0 rfl ?_
    exact j_iret0 C d7_reachableOnes_89
  · exact j_sub [4, 2, 1, 0] rfl (j_loop3 (fun v3 v4 v5 => [(h_, .inr (7, [g_nullable, g_first, g_follow, g_begins])), (h_p1, .inr (6, [.ref h_p1_codes, .int c_p1_count])), (h_p1_codes, .inl (tc.1, 24, .inl c_p1_codes))]) (fun v3 v4 v5 => [(1, .ref h_p1), (2, .int v3), (3, .int v4), (4, .int v5)]) (fun rc6 hrc6 v3 v4 v5 => wX7_reachableOnes_7 C N h_ h_p1 h_p1_codes g_nullable g_first g_follow g_begins c_p1_codes c_p1_count k2 hk2 rc6 hrc6 v3 v4 v5) N _ _ _)

theorem d7_nonterminalsThatBegin_0 : jdk cX7_nonterminalsThatBegin 0 0 1 := Or.inl ⟨0, by decide +kernel⟩
theorem d7_nonterminalsThatBegin_1 : jds cX7_nonterminalsThatBegin 1 2 2 := Or.inl ⟨2, by decide +kernel⟩
theorem d7_nonterminalsThatBegin_2 : jdk cX7_nonterminalsThatBegin 2 0 3 := Or.inl ⟨0, by decide +kernel⟩
theorem d7_nonterminalsThatBegin_3 : jds cX7_nonterminalsThatBegin 3 3 4 := Or.inl ⟨3, by decide +kernel⟩
theorem d7_nonterminalsThatBegin_4 : jdi cX7_nonterminalsThatBegin 4 3 5 := Or.inl ⟨3, by decide +kernel⟩
theorem d7_nonterminalsThatBegin_5 : jdi cX7_nonterminalsThatBegin 5 1 6 := Or.inl ⟨1, by decide +kernel⟩
theorem d7_nonterminalsThatBegin_6 : jd cX7_nonterminalsThatBegin 6 (.invokestatic 68) 3 9 := by decide +kernel
theorem d7_nonterminalsThatBegin_9 : jdb cX7_nonterminalsThatBegin 9 (.if_icmp .ge 44) 44 53 12 := by decide +kernel
theorem d7_nonterminalsThatBegin_12 : jdi cX7_nonterminalsThatBegin 12 1 13 := Or.inl ⟨1, by decide +kernel⟩
theorem d7_nonterminalsThatBegin_13 : jdi cX7_nonterminalsThatBegin 13 3 14 := Or.inl ⟨3, by decide +kernel⟩
theorem d7_nonterminalsThatBegin_14 : jd cX7_nonterminalsThatBegin 14 (.invokestatic 71) 3 17 := by decide +kernel
theorem d7_nonterminalsThatBegin_17 : jds cX7_nonterminalsThatBegin 17 4 19 := Or.inr (by decide +kernel)
theorem d7_nonterminalsThatBegin_19 : jdi cX7_nonterminalsThatBegin 19 4 21 := Or.inr (by decide +kernel)
theorem d7_nonterminalsThatBegin_21 : jdk cX7_nonterminalsThatBegin 21 10 23 := Or.inr (Or.inl ⟨10, by decide +kernel⟩)
theorem d7_nonterminalsThatBegin_23 : jdb cX7_nonterminalsThatBegin 23 (.if_icmp .lt 13) 13 36 26 := by decide +kernel
theorem d7_nonterminalsThatBegin_26 : jdi cX7_nonterminalsThatBegin 26 2 27 := Or.inl ⟨2, by decide +kernel⟩
theorem d7_nonterminalsThatBegin_27 : jdk cX7_nonterminalsThatBegin 27 1 28 := Or.inl ⟨1, by decide +kernel⟩
theorem d7_nonterminalsThatBegin_28 : jdi cX7_nonterminalsThatBegin 28 4 30 := Or.inr (by decide +kernel)
theorem d7_nonterminalsThatBegin_30 : jdk cX7_nonterminalsThatBegin 30 10 32 := Or.inr (Or.inl ⟨10, by decide +kernel⟩)
theorem d7_nonterminalsThatBegin_32 : jd cX7_nonterminalsThatBegin 32 (.isub) 1 33 := by decide +kernel
theorem d7_nonterminalsThatBegin_33 : jd cX7_nonterminalsThatBegin 33 (.ishl) 1 34 := by decide +kernel
theorem d7_nonterminalsThatBegin_34 : jd cX7_nonterminalsThatBegin 34 (.ior) 1 35 := by decide +kernel
theorem d7_nonterminalsThatBegin_35 : jds cX7_nonterminalsThatBegin 35 2 36 := Or.inl ⟨2, by decide +kernel⟩
theorem d7_nonterminalsThatBegin_36 : jda cX7_nonterminalsThatBegin 36 0 37 := Or.inl ⟨0, by decide +kernel⟩
theorem d7_nonterminalsThatBegin_37 : jdi cX7_nonterminalsThatBegin 37 4 39 := Or.inr (by decide +kernel)
theorem d7_nonterminalsThatBegin_39 : jd cX7_nonterminalsThatBegin 39 (.invokevirtual 74) 3 42 := by decide +kernel
theorem d7_nonterminalsThatBegin_42 : jdb cX7_nonterminalsThatBegin 42 (.ifCond .ne 5) 5 47 45 := by decide +kernel
theorem d7_nonterminalsThatBegin_45 : jdi cX7_nonterminalsThatBegin 45 2 46 := Or.inl ⟨2, by decide +kernel⟩
theorem d7_nonterminalsThatBegin_46 : decode cX7_nonterminalsThatBegin 46 = .ok (.ireturn, 1) := by decide +kernel
theorem d7_nonterminalsThatBegin_47 : jd cX7_nonterminalsThatBegin 47 (.iinc 3 1) 3 50 := by decide +kernel
theorem d7_nonterminalsThatBegin_50 : jdb cX7_nonterminalsThatBegin 50 (.goto (-46)) (-46) 4 53 := by decide +kernel
theorem d7_nonterminalsThatBegin_53 : jdi cX7_nonterminalsThatBegin 53 2 54 := Or.inl ⟨2, by decide +kernel⟩
theorem d7_nonterminalsThatBegin_54 : decode cX7_nonterminalsThatBegin 54 = .ok (.ireturn, 1) := by decide +kernel
set_option maxHeartbeats 4000000 in
set_option maxRecDepth 100000 in
theorem wX7_nonterminalsThatBegin_4 {X : jC} {tc : jTC} (C : jx X cX7_nonterminalsThatBegin 5 RX7 (some .int) tc ({ frames := 2, cells := 0, slots := 0, locals := 42 } : Room)) (h_ : Nat) (g_first g_follow g_begins : Value) (p1 : Int32) (c_nullable : Int32) (k2 : (Int32 → Option (Int32))) (hk2 : ∀ (v13 : Int32), jo X 5 (0, 0) (jQI0 X [(h_, .inr (7, [.int c_nullable, g_first, g_follow, g_begins]))]) (k2 v13) [(h_, .inr (7, [.int c_nullable, g_first, g_follow, g_begins]))] 53 [(2, .int v13)] []) (rc5 : Int32 → Int32 → Option (Int32)) (hrc5 : ∀ (v3 : Int32) (v4 : Int32), jo X 5 (0, 0) (jQI0 X [(h_, .inr (7, [.int c_nullable, g_first, g_follow, g_begins]))]) (rc5 v3 v4) [(h_, .inr (7, [.int c_nullable, g_first, g_follow, g_begins]))] 4 [(0, .ref h_), (1, .int p1), (2, .int v3), (3, .int v4)] []) (v3 : Int32) (v4 : Int32) : jo X 5 (0, 0) (jQI0 X [(h_, .inr (7, [.int c_nullable, g_first, g_follow, g_begins]))]) (bX7_nonterminalsThatBegin_4 p1 c_nullable k2 rc5 v3 v4) [(h_, .inr (7, [.int c_nullable, g_first, g_follow, g_begins]))] 4 [(0, .ref h_), (1, .int p1), (2, .int v3), (3, .int v4)] [] := by
  unfold bX7_nonterminalsThatBegin_4
  refine j_iload C d7_nonterminalsThatBegin_4 3 rfl ?_
  refine j_iload C d7_nonterminalsThatBegin_5 1 rfl ?_
  refine j_callSI0 (As := [.int p1]) C d7_nonterminalsThatBegin_6 ms7_68 (kX6_lengthOf _ _ tc p1) ⟨rfl, rfl, Nat.le_of_ble_eq_true rfl, Nat.le_of_ble_eq_true rfl⟩ rfl [] rfl rfl rfl (Nat.le_of_ble_eq_true rfl) (fun x6 => ?_)
  refine j_icmp_ge C d7_nonterminalsThatBegin_9 ?_ ?_
  · exact j_sub [2] rfl (hk2 _)
  · refine j_iload C d7_nonterminalsThatBegin_12 1 rfl ?_
    refine j_iload C d7_nonterminalsThatBegin_13 3 rfl ?_
    refine j_callSI0 (As := [.int p1, .int v4]) C d7_nonterminalsThatBegin_14 ms7_71 (kX6_symbolOf _ _ tc p1 v4) ⟨rfl, rfl, Nat.le_of_ble_eq_true rfl, Nat.le_of_ble_eq_true rfl⟩ rfl [] rfl rfl rfl (Nat.le_of_ble_eq_true rfl) (fun x7 => ?_)
    refine j_istore C d7_nonterminalsThatBegin_17 (by decide) (lv' := [(4, .int x7), (0, .ref h_), (1, .int p1), (2, .int v3), (3, .int v4)]) rfl ?_
    refine j_iload C d7_nonterminalsThatBegin_19 0 rfl ?_
    refine j_const C d7_nonterminalsThatBegin_21 ?_
    refine j_join 36 (fun v8 => [(h_, .inr (7, [.int c_nullable, g_first, g_follow, g_begins]))]) (fun v8 => [(0, .ref h_), (1, .int p1), (2, .int v8), (3, .int v4), (4, .int x7)]) (fun v8 => []) (fun v8 => ?_) (fun k11 hk11 => ?_)
    · refine j_aload C d7_nonterminalsThatBegin_36 0 rfl ?_
      refine j_iload C d7_nonterminalsThatBegin_37 4 rfl ?_
      refine j_callVI0 (As := [.int x7]) C d7_nonterminalsThatBegin_39 mv7_74 (kX7_isNullable _ _ tc h_ g_first g_follow g_begins c_nullable x7) ⟨rfl, rfl, Nat.le_of_ble_eq_true rfl, Nat.le_of_ble_eq_true rfl⟩ rfl 0 rfl [0] rfl rfl rfl (Nat.le_of_ble_eq_true rfl) (fun x9 => ?_)
      refine j_if_ne C d7_nonterminalsThatBegin_42 ?_ ?_
      · refine j_iincN C (fun x10 => [(3, .int x10), (0, .ref h_), (1, .int p1), (2, .int v8), (4, .int x7)]) d7_nonterminalsThatBegin_47 3 rfl (by decide +kernel) (by decide) (fun _ => rfl) (fun x10 => ?_)
        refine j_goto C d7_nonterminalsThatBegin_50 ?_
        exact j_sub [1, 2, 3, 0] rfl (hrc5 _ _)
      · refine j_iload C d7_nonterminalsThatBegin_45 2 rfl ?_
        exact j_iret0 C d7_nonterminalsThatBegin_46
    · refine j_icmp_lt C d7_nonterminalsThatBegin_23 ?_ ?_
      · exact j_sub [1, 2, 3, 4, 0] rfl (hk11 _)
      · refine j_iload C d7_nonterminalsThatBegin_26 3 rfl ?_
        refine j_const C d7_nonterminalsThatBegin_27 ?_
        refine j_iload C d7_nonterminalsThatBegin_28 0 rfl ?_
        refine j_const C d7_nonterminalsThatBegin_30 ?_
        refine j_isub C d7_nonterminalsThatBegin_32 ?_
        refine j_ishl C d7_nonterminalsThatBegin_33 ?_
        refine j_ior C d7_nonterminalsThatBegin_34 ?_
        refine j_leti (fun x12 => ?_)
        refine j_istore C d7_nonterminalsThatBegin_35 (by decide) (lv' := [(2, .int x12), (4, .int x7), (0, .ref h_), (1, .int p1), (3, .int v4)]) rfl ?_
        exact j_sub [2, 3, 0, 4, 1] rfl (hk11 _)

set_option maxHeartbeats 4000000 in
set_option maxRecDepth 100000 in
theorem kX7_nonterminalsThatBegin (l : Launch) (D : va_G) (tc : jTC) (N : Nat) (h_ : Nat) (g_first g_follow g_begins : Value) (c_nullable : Int32) (p1 : Int32) : ctI0 l D tc yX7_nonterminalsThatBegin (Cond.code yX7_nonterminalsThatBegin cX7_nonterminalsThatBegin 5 (some .int) :: jtb) ({ frames := 2, cells := 0, slots := 0, locals := 42 } : Room) [.ref h_, .int p1] [(h_, .inr (7, [.int c_nullable, g_first, g_follow, g_begins]))] (fX7_nonterminalsThatBegin N c_nullable p1) := by
  refine ctI0_of (lv0 := [(0, .ref h_), (1, .int p1)]) (by decide +kernel) (Nat.le_of_ble_eq_true rfl) rfl (fun X C => ?_)
  unfold fX7_nonterminalsThatBegin
  refine j_const C d7_nonterminalsThatBegin_0 ?_
  refine j_istore C d7_nonterminalsThatBegin_1 (by decide) (lv' := [(2, .int 0), (0, .ref h_), (1, .int p1)]) rfl ?_
  refine j_const C d7_nonterminalsThatBegin_2 ?_
  refine j_istore C d7_nonterminalsThatBegin_3 (by decide) (lv' := [(3, .int 0), (2, .int 0), (0, .ref h_), (1, .int p1)]) rfl ?_
  refine j_join 53 (fun v1 => [(h_, .inr (7, [.int c_nullable, g_first, g_follow, g_begins]))]) (fun v1 => [(2, .int v1)]) (fun v1 => []) (fun v1 => ?_) (fun k2 hk2 => ?_)
  · refine j_iload C d7_nonterminalsThatBegin_53 0 rfl ?_
    exact j_iret0 C d7_nonterminalsThatBegin_54
  · exact j_sub [2, 3, 1, 0] rfl (j_loop2 (fun v3 v4 => [(h_, .inr (7, [.int c_nullable, g_first, g_follow, g_begins]))]) (fun v3 v4 => [(0, .ref h_), (1, .int p1), (2, .int v3), (3, .int v4)]) (fun rc5 hrc5 v3 v4 => wX7_nonterminalsThatBegin_4 C h_ g_first g_follow g_begins p1 c_nullable k2 hk2 rc5 hrc5 v3 v4) N _ _)

theorem d7_closeBegins_0 : jdk cX7_closeBegins 0 0 1 := Or.inl ⟨0, by decide +kernel⟩
theorem d7_closeBegins_1 : jds cX7_closeBegins 1 1 2 := Or.inl ⟨1, by decide +kernel⟩
theorem d7_closeBegins_2 : jdi cX7_closeBegins 2 1 3 := Or.inl ⟨1, by decide +kernel⟩
theorem d7_closeBegins_3 : jdk cX7_closeBegins 3 8 5 := Or.inr (Or.inl ⟨8, by decide +kernel⟩)
theorem d7_closeBegins_5 : jdb cX7_closeBegins 5 (.if_icmp .ge 52) 52 57 8 := by decide +kernel
theorem d7_closeBegins_8 : jdk cX7_closeBegins 8 0 9 := Or.inl ⟨0, by decide +kernel⟩
theorem d7_closeBegins_9 : jds cX7_closeBegins 9 2 10 := Or.inl ⟨2, by decide +kernel⟩
theorem d7_closeBegins_10 : jdi cX7_closeBegins 10 2 11 := Or.inl ⟨2, by decide +kernel⟩
theorem d7_closeBegins_11 : jdk cX7_closeBegins 11 8 13 := Or.inr (Or.inl ⟨8, by decide +kernel⟩)
theorem d7_closeBegins_13 : jdb cX7_closeBegins 13 (.if_icmp .ge 38) 38 51 16 := by decide +kernel
theorem d7_closeBegins_16 : jda cX7_closeBegins 16 0 17 := Or.inl ⟨0, by decide +kernel⟩
theorem d7_closeBegins_17 : jd cX7_closeBegins 17 (.getfield 18) 3 20 := by decide +kernel
theorem d7_closeBegins_20 : jdi cX7_closeBegins 20 2 21 := Or.inl ⟨2, by decide +kernel⟩
theorem d7_closeBegins_21 : jd cX7_closeBegins 21 (.iaload) 1 22 := by decide +kernel
theorem d7_closeBegins_22 : jdi cX7_closeBegins 22 1 23 := Or.inl ⟨1, by decide +kernel⟩
theorem d7_closeBegins_23 : jd cX7_closeBegins 23 (.invokestatic 31) 3 26 := by decide +kernel
theorem d7_closeBegins_26 : jdk cX7_closeBegins 26 1 27 := Or.inl ⟨1, by decide +kernel⟩
theorem d7_closeBegins_27 : jdb cX7_closeBegins 27 (.if_icmp .ne 18) 18 45 30 := by decide +kernel
theorem d7_closeBegins_30 : jda cX7_closeBegins 30 0 31 := Or.inl ⟨0, by decide +kernel⟩
theorem d7_closeBegins_31 : jd cX7_closeBegins 31 (.getfield 18) 3 34 := by decide +kernel
theorem d7_closeBegins_34 : jdi cX7_closeBegins 34 2 35 := Or.inl ⟨2, by decide +kernel⟩
theorem d7_closeBegins_35 : jd cX7_closeBegins 35 (.dup2) 1 36 := by decide +kernel
theorem d7_closeBegins_36 : jd cX7_closeBegins 36 (.iaload) 1 37 := by decide +kernel
theorem d7_closeBegins_37 : jda cX7_closeBegins 37 0 38 := Or.inl ⟨0, by decide +kernel⟩
theorem d7_closeBegins_38 : jd cX7_closeBegins 38 (.getfield 18) 3 41 := by decide +kernel
theorem d7_closeBegins_41 : jdi cX7_closeBegins 41 1 42 := Or.inl ⟨1, by decide +kernel⟩
theorem d7_closeBegins_42 : jd cX7_closeBegins 42 (.iaload) 1 43 := by decide +kernel
theorem d7_closeBegins_43 : jd cX7_closeBegins 43 (.ior) 1 44 := by decide +kernel
theorem d7_closeBegins_44 : jd cX7_closeBegins 44 (.iastore) 1 45 := by decide +kernel
theorem d7_closeBegins_45 : jd cX7_closeBegins 45 (.iinc 2 1) 3 48 := by decide +kernel
theorem d7_closeBegins_48 : jdb cX7_closeBegins 48 (.goto (-38)) (-38) 10 51 := by decide +kernel
theorem d7_closeBegins_51 : jd cX7_closeBegins 51 (.iinc 1 1) 3 54 := by decide +kernel
theorem d7_closeBegins_54 : jdb cX7_closeBegins 54 (.goto (-52)) (-52) 2 57 := by decide +kernel
theorem d7_closeBegins_57 : decode cX7_closeBegins 57 = .ok (.return_, 1) := by decide +kernel
set_option maxHeartbeats 4000000 in
set_option maxRecDepth 100000 in
theorem wX7_closeBegins_10 {X : jC} {tc : jTC} (C : jx X cX7_closeBegins 3 RX7 none tc ({ frames := 1, cells := 0, slots := 0, locals := 21 } : Room)) (h_ h_begins : Nat) (g_nullable g_first g_follow : Value) (v3 : Int32) (k8 : ((Nat → Int32) → Option ((Nat → Int32)))) (hk8 : ∀ (v20 : (Nat → Int32)), jo X 3 (0, 0) (jQV X (fun (u : (Nat → Int32)) => [(h_, .inr (7, [g_nullable, g_first, g_follow, .ref h_begins])), (h_begins, .inl (tc.1, 8, .inl u))])) (k8 v20) [(h_, .inr (7, [g_nullable, g_first, g_follow, .ref h_begins])), (h_begins, .inl (tc.1, 8, .inl v20))] 51 [(0, .ref h_), (1, .int v3)] []) (rc11 : Int32 → (Nat → Int32) → Option ((Nat → Int32))) (hrc11 : ∀ (v9 : Int32) (v10 : (Nat → Int32)), jo X 3 (0, 0) (jQV X (fun (u : (Nat → Int32)) => [(h_, .inr (7, [g_nullable, g_first, g_follow, .ref h_begins])), (h_begins, .inl (tc.1, 8, .inl u))])) (rc11 v9 v10) [(h_, .inr (7, [g_nullable, g_first, g_follow, .ref h_begins])), (h_begins, .inl (tc.1, 8, .inl v10))] 10 [(0, .ref h_), (1, .int v3), (2, .int v9)] []) (v9 : Int32) (v10 : (Nat → Int32)) : jo X 3 (0, 0) (jQV X (fun (u : (Nat → Int32)) => [(h_, .inr (7, [g_nullable, g_first, g_follow, .ref h_begins])), (h_begins, .inl (tc.1, 8, .inl u))])) (bX7_closeBegins_10 v3 k8 rc11 v9 v10) [(h_, .inr (7, [g_nullable, g_first, g_follow, .ref h_begins])), (h_begins, .inl (tc.1, 8, .inl v10))] 10 [(0, .ref h_), (1, .int v3), (2, .int v9)] [] := by
  unfold bX7_closeBegins_10
  refine j_iload C d7_closeBegins_10 2 rfl ?_
  refine j_const C d7_closeBegins_11 ?_
  refine j_icmp_ge C d7_closeBegins_13 ?_ ?_
  · exact j_sub [0, 1] rfl (hk8 _)
  · refine j_aload C d7_closeBegins_16 0 rfl ?_
    refine j_get C d7_closeBegins_17 fl7_18 0 rfl rfl ?_
    refine j_iload C d7_closeBegins_20 2 rfl ?_
    refine j_iald C d7_closeBegins_21 1 rfl (fun x12 => ?_)
    refine j_iload C d7_closeBegins_22 1 rfl ?_
    refine j_callNI0 (As := [.int x12, .int v3]) C d7_closeBegins_23 mn7_31 (kX11_bit _ _ tc x12 v3) ⟨rfl, rfl, Nat.le_of_ble_eq_true rfl, Nat.le_of_ble_eq_true rfl⟩ rfl [] rfl rfl rfl (Nat.le_of_ble_eq_true rfl) (fun x13 => ?_)
    refine j_const C d7_closeBegins_26 ?_
    refine j_join 45 (fun v14 => [(h_, .inr (7, [g_nullable, g_first, g_follow, .ref h_begins])), (h_begins, .inl (tc.1, 8, .inl v14))]) (fun v14 => [(0, .ref h_), (1, .int v3), (2, .int v9)]) (fun v14 => []) (fun v14 => ?_) (fun k16 hk16 => ?_)
    · refine j_iincN C (fun x15 => [(2, .int x15), (0, .ref h_), (1, .int v3)]) d7_closeBegins_45 2 rfl (by decide +kernel) (by decide) (fun _ => rfl) (fun x15 => ?_)
      refine j_goto C d7_closeBegins_48 ?_
      exact j_sub [1, 2, 0] rfl (hrc11 _ _)
    · refine j_icmp_ne C d7_closeBegins_27 ?_ ?_
      · exact hk16 _
      · refine j_aload C d7_closeBegins_30 0 rfl ?_
        refine j_get C d7_closeBegins_31 fl7_18 0 rfl rfl ?_
        refine j_iload C d7_closeBegins_34 2 rfl ?_
        refine j_dup2 C d7_closeBegins_35 rfl rfl ?_
        refine j_iald C d7_closeBegins_36 1 rfl (fun x17 => ?_)
        refine j_aload C d7_closeBegins_37 0 rfl ?_
        refine j_get C d7_closeBegins_38 fl7_18 0 rfl rfl ?_
        refine j_iload C d7_closeBegins_41 1 rfl ?_
        refine j_iald C d7_closeBegins_42 1 rfl (fun x18 => ?_)
        refine j_ior C d7_closeBegins_43 ?_
        refine j_iast C (fun f19 => [(h_, .inr (7, [g_nullable, g_first, g_follow, .ref h_begins])), (h_begins, .inl (tc.1, 8, .inl f19))]) d7_closeBegins_44 1 rfl (fun _ => rfl) (fun f19 => ?_)
        exact hk16 _

set_option maxHeartbeats 4000000 in
set_option maxRecDepth 100000 in
theorem wX7_closeBegins_2 {X : jC} {tc : jTC} (C : jx X cX7_closeBegins 3 RX7 none tc ({ frames := 1, cells := 0, slots := 0, locals := 21 } : Room)) (N : Nat) (h_ h_begins : Nat) (g_nullable g_first g_follow : Value) (k2 : ((Nat → Int32) → Option ((Nat → Int32)))) (hk2 : ∀ (v21 : (Nat → Int32)), jo X 3 (0, 0) (jQV X (fun (u : (Nat → Int32)) => [(h_, .inr (7, [g_nullable, g_first, g_follow, .ref h_begins])), (h_begins, .inl (tc.1, 8, .inl u))])) (k2 v21) [(h_, .inr (7, [g_nullable, g_first, g_follow, .ref h_begins])), (h_begins, .inl (tc.1, 8, .inl v21))] 57 [] []) (rc5 : Int32 → (Nat → Int32) → Option ((Nat → Int32))) (hrc5 : ∀ (v3 : Int32) (v4 : (Nat → Int32)), jo X 3 (0, 0) (jQV X (fun (u : (Nat → Int32)) => [(h_, .inr (7, [g_nullable, g_first, g_follow, .ref h_begins])), (h_begins, .inl (tc.1, 8, .inl u))])) (rc5 v3 v4) [(h_, .inr (7, [g_nullable, g_first, g_follow, .ref h_begins])), (h_begins, .inl (tc.1, 8, .inl v4))] 2 [(0, .ref h_), (1, .int v3)] []) (v3 : Int32) (v4 : (Nat → Int32)) : jo X 3 (0, 0) (jQV X (fun (u : (Nat → Int32)) => [(h_, .inr (7, [g_nullable, g_first, g_follow, .ref h_begins])), (h_begins, .inl (tc.1, 8, .inl u))])) (bX7_closeBegins_2 N k2 rc5 v3 v4) [(h_, .inr (7, [g_nullable, g_first, g_follow, .ref h_begins])), (h_begins, .inl (tc.1, 8, .inl v4))] 2 [(0, .ref h_), (1, .int v3)] [] := by
  unfold bX7_closeBegins_2
  refine j_iload C d7_closeBegins_2 1 rfl ?_
  refine j_const C d7_closeBegins_3 ?_
  refine j_icmp_ge C d7_closeBegins_5 ?_ ?_
  · exact j_sub [] rfl (hk2 _)
  · refine j_const C d7_closeBegins_8 ?_
    refine j_istore C d7_closeBegins_9 (by decide) (lv' := [(2, .int 0), (0, .ref h_), (1, .int v3)]) rfl ?_
    refine j_join 51 (fun v6 => [(h_, .inr (7, [g_nullable, g_first, g_follow, .ref h_begins])), (h_begins, .inl (tc.1, 8, .inl v6))]) (fun v6 => [(0, .ref h_), (1, .int v3)]) (fun v6 => []) (fun v6 => ?_) (fun k8 hk8 => ?_)
    · refine j_iincN C (fun x7 => [(1, .int x7), (0, .ref h_)]) d7_closeBegins_51 1 rfl (by decide +kernel) (by decide) (fun _ => rfl) (fun x7 => ?_)
      refine j_goto C d7_closeBegins_54 ?_
      exact j_sub [1, 0] rfl (hrc5 _ _)
    · exact j_sub [1, 2, 0] rfl (j_loop2 (fun v9 v10 => [(h_, .inr (7, [g_nullable, g_first, g_follow, .ref h_begins])), (h_begins, .inl (tc.1, 8, .inl v10))]) (fun v9 v10 => [(0, .ref h_), (1, .int v3), (2, .int v9)]) (fun rc11 hrc11 v9 v10 => wX7_closeBegins_10 C h_ h_begins g_nullable g_first g_follow v3 k8 hk8 rc11 hrc11 v9 v10) N _ _)

set_option maxHeartbeats 4000000 in
set_option maxRecDepth 100000 in
theorem kX7_closeBegins (l : Launch) (D : va_G) (tc : jTC) (N : Nat) (h_ h_begins : Nat) (g_nullable g_first g_follow : Value) (c_begins : (Nat → Int32)) : ctV l D tc yX7_closeBegins (Cond.code yX7_closeBegins cX7_closeBegins 3 none :: jtb) ({ frames := 1, cells := 0, slots := 0, locals := 21 } : Room) [.ref h_] [(h_, .inr (7, [g_nullable, g_first, g_follow, .ref h_begins])), (h_begins, .inl (tc.1, 8, .inl c_begins))] (fX7_closeBegins N c_begins) (fun (u : (Nat → Int32)) => [(h_, .inr (7, [g_nullable, g_first, g_follow, .ref h_begins])), (h_begins, .inl (tc.1, 8, .inl u))]) := by
  refine ctV_of (lv0 := [(0, .ref h_)]) (by decide +kernel) (Nat.le_of_ble_eq_true rfl) rfl (fun X C => ?_)
  unfold fX7_closeBegins
  refine j_const C d7_closeBegins_0 ?_
  refine j_istore C d7_closeBegins_1 (by decide) (lv' := [(1, .int 0), (0, .ref h_)]) rfl ?_
  refine j_join 57 (fun v1 => [(h_, .inr (7, [g_nullable, g_first, g_follow, .ref h_begins])), (h_begins, .inl (tc.1, 8, .inl v1))]) (fun v1 => []) (fun v1 => []) (fun v1 => ?_) (fun k2 hk2 => ?_)
  · exact j_vret C d7_closeBegins_57 rfl
  · exact j_sub [1, 0] rfl (j_loop2 (fun v3 v4 => [(h_, .inr (7, [g_nullable, g_first, g_follow, .ref h_begins])), (h_begins, .inl (tc.1, 8, .inl v4))]) (fun v3 v4 => [(0, .ref h_), (1, .int v3)]) (fun rc5 hrc5 v3 v4 => wX7_closeBegins_2 C N h_ h_begins g_nullable g_first g_follow k2 hk2 rc5 hrc5 v3 v4) N _ _)

theorem d7_leftRecursiveOnes_0 : jdk cX7_leftRecursiveOnes 0 0 1 := Or.inl ⟨0, by decide +kernel⟩
theorem d7_leftRecursiveOnes_1 : jds cX7_leftRecursiveOnes 1 2 2 := Or.inl ⟨2, by decide +kernel⟩
theorem d7_leftRecursiveOnes_2 : jdi cX7_leftRecursiveOnes 2 2 3 := Or.inl ⟨2, by decide +kernel⟩
theorem d7_leftRecursiveOnes_3 : jdk cX7_leftRecursiveOnes 3 8 5 := Or.inr (Or.inl ⟨8, by decide +kernel⟩)
theorem d7_leftRecursiveOnes_5 : jdb cX7_leftRecursiveOnes 5 (.if_icmp .ge 16) 16 21 8 := by decide +kernel
theorem d7_leftRecursiveOnes_8 : jda cX7_leftRecursiveOnes 8 0 9 := Or.inl ⟨0, by decide +kernel⟩
theorem d7_leftRecursiveOnes_9 : jd cX7_leftRecursiveOnes 9 (.getfield 18) 3 12 := by decide +kernel
theorem d7_leftRecursiveOnes_12 : jdi cX7_leftRecursiveOnes 12 2 13 := Or.inl ⟨2, by decide +kernel⟩
theorem d7_leftRecursiveOnes_13 : jdk cX7_leftRecursiveOnes 13 0 14 := Or.inl ⟨0, by decide +kernel⟩
theorem d7_leftRecursiveOnes_14 : jd cX7_leftRecursiveOnes 14 (.iastore) 1 15 := by decide +kernel
theorem d7_leftRecursiveOnes_15 : jd cX7_leftRecursiveOnes 15 (.iinc 2 1) 3 18 := by decide +kernel
theorem d7_leftRecursiveOnes_18 : jdb cX7_leftRecursiveOnes 18 (.goto (-16)) (-16) 2 21 := by decide +kernel
theorem d7_leftRecursiveOnes_21 : jdk cX7_leftRecursiveOnes 21 0 22 := Or.inl ⟨0, by decide +kernel⟩
theorem d7_leftRecursiveOnes_22 : jds cX7_leftRecursiveOnes 22 2 23 := Or.inl ⟨2, by decide +kernel⟩
theorem d7_leftRecursiveOnes_23 : jdi cX7_leftRecursiveOnes 23 2 24 := Or.inl ⟨2, by decide +kernel⟩
theorem d7_leftRecursiveOnes_24 : jda cX7_leftRecursiveOnes 24 1 25 := Or.inl ⟨1, by decide +kernel⟩
theorem d7_leftRecursiveOnes_25 : jd cX7_leftRecursiveOnes 25 (.getfield 45) 3 28 := by decide +kernel
theorem d7_leftRecursiveOnes_28 : jdb cX7_leftRecursiveOnes 28 (.if_icmp .ge 36) 36 64 31 := by decide +kernel
theorem d7_leftRecursiveOnes_31 : jda cX7_leftRecursiveOnes 31 0 32 := Or.inl ⟨0, by decide +kernel⟩
theorem d7_leftRecursiveOnes_32 : jd cX7_leftRecursiveOnes 32 (.getfield 18) 3 35 := by decide +kernel
theorem d7_leftRecursiveOnes_35 : jda cX7_leftRecursiveOnes 35 1 36 := Or.inl ⟨1, by decide +kernel⟩
theorem d7_leftRecursiveOnes_36 : jd cX7_leftRecursiveOnes 36 (.getfield 50) 3 39 := by decide +kernel
theorem d7_leftRecursiveOnes_39 : jdi cX7_leftRecursiveOnes 39 2 40 := Or.inl ⟨2, by decide +kernel⟩
theorem d7_leftRecursiveOnes_40 : jd cX7_leftRecursiveOnes 40 (.iaload) 1 41 := by decide +kernel
theorem d7_leftRecursiveOnes_41 : jd cX7_leftRecursiveOnes 41 (.invokestatic 57) 3 44 := by decide +kernel
theorem d7_leftRecursiveOnes_44 : jd cX7_leftRecursiveOnes 44 (.dup2) 1 45 := by decide +kernel
theorem d7_leftRecursiveOnes_45 : jd cX7_leftRecursiveOnes 45 (.iaload) 1 46 := by decide +kernel
theorem d7_leftRecursiveOnes_46 : jda cX7_leftRecursiveOnes 46 0 47 := Or.inl ⟨0, by decide +kernel⟩
theorem d7_leftRecursiveOnes_47 : jda cX7_leftRecursiveOnes 47 1 48 := Or.inl ⟨1, by decide +kernel⟩
theorem d7_leftRecursiveOnes_48 : jd cX7_leftRecursiveOnes 48 (.getfield 50) 3 51 := by decide +kernel
theorem d7_leftRecursiveOnes_51 : jdi cX7_leftRecursiveOnes 51 2 52 := Or.inl ⟨2, by decide +kernel⟩
theorem d7_leftRecursiveOnes_52 : jd cX7_leftRecursiveOnes 52 (.iaload) 1 53 := by decide +kernel
theorem d7_leftRecursiveOnes_53 : jd cX7_leftRecursiveOnes 53 (.invokevirtual 83) 3 56 := by decide +kernel
theorem d7_leftRecursiveOnes_56 : jd cX7_leftRecursiveOnes 56 (.ior) 1 57 := by decide +kernel
theorem d7_leftRecursiveOnes_57 : jd cX7_leftRecursiveOnes 57 (.iastore) 1 58 := by decide +kernel
theorem d7_leftRecursiveOnes_58 : jd cX7_leftRecursiveOnes 58 (.iinc 2 1) 3 61 := by decide +kernel
theorem d7_leftRecursiveOnes_61 : jdb cX7_leftRecursiveOnes 61 (.goto (-38)) (-38) 23 64 := by decide +kernel
theorem d7_leftRecursiveOnes_64 : jda cX7_leftRecursiveOnes 64 0 65 := Or.inl ⟨0, by decide +kernel⟩
theorem d7_leftRecursiveOnes_65 : jd cX7_leftRecursiveOnes 65 (.invokevirtual 86) 3 68 := by decide +kernel
theorem d7_leftRecursiveOnes_68 : jdk cX7_leftRecursiveOnes 68 0 69 := Or.inl ⟨0, by decide +kernel⟩
theorem d7_leftRecursiveOnes_69 : jds cX7_leftRecursiveOnes 69 2 70 := Or.inl ⟨2, by decide +kernel⟩
theorem d7_leftRecursiveOnes_70 : jdk cX7_leftRecursiveOnes 70 0 71 := Or.inl ⟨0, by decide +kernel⟩
theorem d7_leftRecursiveOnes_71 : jds cX7_leftRecursiveOnes 71 3 72 := Or.inl ⟨3, by decide +kernel⟩
theorem d7_leftRecursiveOnes_72 : jdi cX7_leftRecursiveOnes 72 3 73 := Or.inl ⟨3, by decide +kernel⟩
theorem d7_leftRecursiveOnes_73 : jdk cX7_leftRecursiveOnes 73 8 75 := Or.inr (Or.inl ⟨8, by decide +kernel⟩)
theorem d7_leftRecursiveOnes_75 : jdb cX7_leftRecursiveOnes 75 (.if_icmp .ge 22) 22 97 78 := by decide +kernel
theorem d7_leftRecursiveOnes_78 : jdi cX7_leftRecursiveOnes 78 2 79 := Or.inl ⟨2, by decide +kernel⟩
theorem d7_leftRecursiveOnes_79 : jda cX7_leftRecursiveOnes 79 0 80 := Or.inl ⟨0, by decide +kernel⟩
theorem d7_leftRecursiveOnes_80 : jd cX7_leftRecursiveOnes 80 (.getfield 18) 3 83 := by decide +kernel
theorem d7_leftRecursiveOnes_83 : jdi cX7_leftRecursiveOnes 83 3 84 := Or.inl ⟨3, by decide +kernel⟩
theorem d7_leftRecursiveOnes_84 : jd cX7_leftRecursiveOnes 84 (.iaload) 1 85 := by decide +kernel
theorem d7_leftRecursiveOnes_85 : jdk cX7_leftRecursiveOnes 85 1 86 := Or.inl ⟨1, by decide +kernel⟩
theorem d7_leftRecursiveOnes_86 : jdi cX7_leftRecursiveOnes 86 3 87 := Or.inl ⟨3, by decide +kernel⟩
theorem d7_leftRecursiveOnes_87 : jd cX7_leftRecursiveOnes 87 (.ishl) 1 88 := by decide +kernel
theorem d7_leftRecursiveOnes_88 : jd cX7_leftRecursiveOnes 88 (.iand) 1 89 := by decide +kernel
theorem d7_leftRecursiveOnes_89 : jd cX7_leftRecursiveOnes 89 (.ior) 1 90 := by decide +kernel
theorem d7_leftRecursiveOnes_90 : jds cX7_leftRecursiveOnes 90 2 91 := Or.inl ⟨2, by decide +kernel⟩
theorem d7_leftRecursiveOnes_91 : jd cX7_leftRecursiveOnes 91 (.iinc 3 1) 3 94 := by decide +kernel
theorem d7_leftRecursiveOnes_94 : jdb cX7_leftRecursiveOnes 94 (.goto (-22)) (-22) 72 97 := by decide +kernel
theorem d7_leftRecursiveOnes_97 : jdi cX7_leftRecursiveOnes 97 2 98 := Or.inl ⟨2, by decide +kernel⟩
theorem d7_leftRecursiveOnes_98 : decode cX7_leftRecursiveOnes 98 = .ok (.ireturn, 1) := by decide +kernel
set_option maxHeartbeats 4000000 in
set_option maxRecDepth 100000 in
theorem wX7_leftRecursiveOnes_72 {X : jC} {tc : jTC} (C : jx X cX7_leftRecursiveOnes 4 RX7 (some .int) tc ({ frames := 3, cells := 0, slots := 0, locals := 66 } : Room)) (h_ h_begins h_p1 h_p1_codes : Nat) (g_first g_follow : Value) (c_nullable : Int32) (c_p1_codes : (Nat → Int32)) (c_p1_count : Int32) (o3 : (Nat → Int32)) (k5 : (Int32 → Option (Int32 × (Nat → Int32)))) (hk5 : ∀ (v12 : Int32), jo X 4 (0, 0) (jQI X (fun (u : (Nat → Int32)) => [(h_, .inr (7, [.int c_nullable, g_first, g_follow, .ref h_begins])), (h_begins, .inl (tc.1, 8, .inl u)), (h_p1, .inr (6, [.ref h_p1_codes, .int c_p1_count])), (h_p1_codes, .inl (tc.1, 24, .inl c_p1_codes))])) (k5 v12) [(h_, .inr (7, [.int c_nullable, g_first, g_follow, .ref h_begins])), (h_begins, .inl (tc.1, 8, .inl o3)), (h_p1, .inr (6, [.ref h_p1_codes, .int c_p1_count])), (h_p1_codes, .inl (tc.1, 24, .inl c_p1_codes))] 97 [(2, .int v12)] []) (rc8 : Int32 → Int32 → Option (Int32 × (Nat → Int32))) (hrc8 : ∀ (v6 : Int32) (v7 : Int32), jo X 4 (0, 0) (jQI X (fun (u : (Nat → Int32)) => [(h_, .inr (7, [.int c_nullable, g_first, g_follow, .ref h_begins])), (h_begins, .inl (tc.1, 8, .inl u)), (h_p1, .inr (6, [.ref h_p1_codes, .int c_p1_count])), (h_p1_codes, .inl (tc.1, 24, .inl c_p1_codes))])) (rc8 v6 v7) [(h_, .inr (7, [.int c_nullable, g_first, g_follow, .ref h_begins])), (h_begins, .inl (tc.1, 8, .inl o3)), (h_p1, .inr (6, [.ref h_p1_codes, .int c_p1_count])), (h_p1_codes, .inl (tc.1, 24, .inl c_p1_codes))] 72 [(0, .ref h_), (2, .int v6), (3, .int v7)] []) (v6 : Int32) (v7 : Int32) : jo X 4 (0, 0) (jQI X (fun (u : (Nat → Int32)) => [(h_, .inr (7, [.int c_nullable, g_first, g_follow, .ref h_begins])), (h_begins, .inl (tc.1, 8, .inl u)), (h_p1, .inr (6, [.ref h_p1_codes, .int c_p1_count])), (h_p1_codes, .inl (tc.1, 24, .inl c_p1_codes))])) (bX7_leftRecursiveOnes_72 o3 k5 rc8 v6 v7) [(h_, .inr (7, [.int c_nullable, g_first, g_follow, .ref h_begins])), (h_begins, .inl (tc.1, 8, .inl o3)), (h_p1, .inr (6, [.ref h_p1_codes, .int c_p1_count])), (h_p1_codes, .inl (tc.1, 24, .inl c_p1_codes))] 72 [(0, .ref h_), (2, .int v6), (3, .int v7)] [] := by
  unfold bX7_leftRecursiveOnes_72
  refine j_iload C d7_leftRecursiveOnes_72 2 rfl ?_
  refine j_const C d7_leftRecursiveOnes_73 ?_
  refine j_icmp_ge C d7_leftRecursiveOnes_75 ?_ ?_
  · exact j_sub [1] rfl (hk5 _)
  · refine j_iload C d7_leftRecursiveOnes_78 1 rfl ?_
    refine j_aload C d7_leftRecursiveOnes_79 0 rfl ?_
    refine j_get C d7_leftRecursiveOnes_80 fl7_18 0 rfl rfl ?_
    refine j_iload C d7_leftRecursiveOnes_83 2 rfl ?_
    refine j_iald C d7_leftRecursiveOnes_84 1 rfl (fun x9 => ?_)
    refine j_const C d7_leftRecursiveOnes_85 ?_
    refine j_iload C d7_leftRecursiveOnes_86 2 rfl ?_
    refine j_ishl C d7_leftRecursiveOnes_87 ?_
    refine j_iand C d7_leftRecursiveOnes_88 ?_
    refine j_ior C d7_leftRecursiveOnes_89 ?_
    refine j_leti (fun x10 => ?_)
    refine j_istore C d7_leftRecursiveOnes_90 (by decide) (lv' := [(2, .int x10), (0, .ref h_), (3, .int v7)]) rfl ?_
    refine j_iincN C (fun x11 => [(3, .int x11), (2, .int x10), (0, .ref h_)]) d7_leftRecursiveOnes_91 2 rfl (by decide +kernel) (by decide) (fun _ => rfl) (fun x11 => ?_)
    refine j_goto C d7_leftRecursiveOnes_94 ?_
    exact j_sub [2, 1, 0] rfl (hrc8 _ _)

set_option maxHeartbeats 4000000 in
set_option maxRecDepth 100000 in
theorem wX7_leftRecursiveOnes_23 {X : jC} {tc : jTC} (C : jx X cX7_leftRecursiveOnes 4 RX7 (some .int) tc ({ frames := 3, cells := 0, slots := 0, locals := 66 } : Room)) (N : Nat) (h_ h_begins h_p1 h_p1_codes : Nat) (g_first g_follow : Value) (c_nullable : Int32) (c_p1_codes : (Nat → Int32)) (c_p1_count : Int32) (k13 : ((Nat → Int32) → Option (Int32 × (Nat → Int32)))) (hk13 : ∀ (v24 : (Nat → Int32)), jo X 4 (0, 0) (jQI X (fun (u : (Nat → Int32)) => [(h_, .inr (7, [.int c_nullable, g_first, g_follow, .ref h_begins])), (h_begins, .inl (tc.1, 8, .inl u)), (h_p1, .inr (6, [.ref h_p1_codes, .int c_p1_count])), (h_p1_codes, .inl (tc.1, 24, .inl c_p1_codes))])) (k13 v24) [(h_, .inr (7, [.int c_nullable, g_first, g_follow, .ref h_begins])), (h_begins, .inl (tc.1, 8, .inl v24)), (h_p1, .inr (6, [.ref h_p1_codes, .int c_p1_count])), (h_p1_codes, .inl (tc.1, 24, .inl c_p1_codes))] 64 [(0, .ref h_)] []) (rc16 : Int32 → (Nat → Int32) → Option (Int32 × (Nat → Int32))) (hrc16 : ∀ (v14 : Int32) (v15 : (Nat → Int32)), jo X 4 (0, 0) (jQI X (fun (u : (Nat → Int32)) => [(h_, .inr (7, [.int c_nullable, g_first, g_follow, .ref h_begins])), (h_begins, .inl (tc.1, 8, .inl u)), (h_p1, .inr (6, [.ref h_p1_codes, .int c_p1_count])), (h_p1_codes, .inl (tc.1, 24, .inl c_p1_codes))])) (rc16 v14 v15) [(h_, .inr (7, [.int c_nullable, g_first, g_follow, .ref h_begins])), (h_begins, .inl (tc.1, 8, .inl v15)), (h_p1, .inr (6, [.ref h_p1_codes, .int c_p1_count])), (h_p1_codes, .inl (tc.1, 24, .inl c_p1_codes))] 23 [(0, .ref h_), (1, .ref h_p1), (2, .int v14)] []) (v14 : Int32) (v15 : (Nat → Int32)) : jo X 4 (0, 0) (jQI X (fun (u : (Nat → Int32)) => [(h_, .inr (7, [.int c_nullable, g_first, g_follow, .ref h_begins])), (h_begins, .inl (tc.1, 8, .inl u)), (h_p1, .inr (6, [.ref h_p1_codes, .int c_p1_count])), (h_p1_codes, .inl (tc.1, 24, .inl c_p1_codes))])) (bX7_leftRecursiveOnes_23 N c_nullable c_p1_codes c_p1_count k13 rc16 v14 v15) [(h_, .inr (7, [.int c_nullable, g_first, g_follow, .ref h_begins])), (h_begins, .inl (tc.1, 8, .inl v15)), (h_p1, .inr (6, [.ref h_p1_codes, .int c_p1_count])), (h_p1_codes, .inl (tc.1, 24, .inl c_p1_codes))] 23 [(0, .ref h_), (1, .ref h_p1), (2, .int v14)] [] := by
  unfold bX7_leftRecursiveOnes_23
  refine j_iload C d7_leftRecursiveOnes_23 2 rfl ?_
  refine j_aload C d7_leftRecursiveOnes_24 1 rfl ?_
  refine j_get C d7_leftRecursiveOnes_25 fl7_45 2 rfl rfl ?_
  refine j_icmp_ge C d7_leftRecursiveOnes_28 ?_ ?_
  · exact j_sub [0] rfl (hk13 _)
  · refine j_aload C d7_leftRecursiveOnes_31 0 rfl ?_
    refine j_get C d7_leftRecursiveOnes_32 fl7_18 0 rfl rfl ?_
    refine j_aload C d7_leftRecursiveOnes_35 1 rfl ?_
    refine j_get C d7_leftRecursiveOnes_36 fl7_50 2 rfl rfl ?_
    refine j_iload C d7_leftRecursiveOnes_39 2 rfl ?_
    refine j_iald C d7_leftRecursiveOnes_40 3 rfl (fun x17 => ?_)
    refine j_callSI0 (As := [.int x17]) C d7_leftRecursiveOnes_41 ms7_57 (kX6_leftOf _ _ tc x17) ⟨rfl, rfl, Nat.le_of_ble_eq_true rfl, Nat.le_of_ble_eq_true rfl⟩ rfl [] rfl rfl rfl (Nat.le_of_ble_eq_true rfl) (fun x18 => ?_)
    refine j_dup2 C d7_leftRecursiveOnes_44 rfl rfl ?_
    refine j_iald C d7_leftRecursiveOnes_45 1 rfl (fun x19 => ?_)
    refine j_aload C d7_leftRecursiveOnes_46 0 rfl ?_
    refine j_aload C d7_leftRecursiveOnes_47 1 rfl ?_
    refine j_get C d7_leftRecursiveOnes_48 fl7_50 2 rfl rfl ?_
    refine j_iload C d7_leftRecursiveOnes_51 2 rfl ?_
    refine j_iald C d7_leftRecursiveOnes_52 3 rfl (fun x20 => ?_)
    refine j_callVI0 (As := [.int x20]) C d7_leftRecursiveOnes_53 mv7_83 (kX7_nonterminalsThatBegin _ _ tc N h_ g_first g_follow (.ref h_begins) c_nullable x20) ⟨rfl, rfl, Nat.le_of_ble_eq_true rfl, Nat.le_of_ble_eq_true rfl⟩ rfl 0 rfl [0] rfl rfl rfl (Nat.le_of_ble_eq_true rfl) (fun x21 => ?_)
    refine j_ior C d7_leftRecursiveOnes_56 ?_
    refine j_iast C (fun f22 => [(h_, .inr (7, [.int c_nullable, g_first, g_follow, .ref h_begins])), (h_begins, .inl (tc.1, 8, .inl f22)), (h_p1, .inr (6, [.ref h_p1_codes, .int c_p1_count])), (h_p1_codes, .inl (tc.1, 24, .inl c_p1_codes))]) d7_leftRecursiveOnes_57 1 rfl (fun _ => rfl) (fun f22 => ?_)
    refine j_iincN C (fun x23 => [(2, .int x23), (0, .ref h_), (1, .ref h_p1)]) d7_leftRecursiveOnes_58 2 rfl (by decide +kernel) (by decide) (fun _ => rfl) (fun x23 => ?_)
    refine j_goto C d7_leftRecursiveOnes_61 ?_
    exact j_sub [1, 2, 0] rfl (hrc16 _ _)

set_option maxHeartbeats 4000000 in
set_option maxRecDepth 100000 in
theorem wX7_leftRecursiveOnes_2 {X : jC} {tc : jTC} (C : jx X cX7_leftRecursiveOnes 4 RX7 (some .int) tc ({ frames := 3, cells := 0, slots := 0, locals := 66 } : Room)) (h_ h_begins h_p1 h_p1_codes : Nat) (g_first g_follow : Value) (c_nullable : Int32) (c_p1_codes : (Nat → Int32)) (c_p1_count : Int32) (k25 : ((Nat → Int32) → Option (Int32 × (Nat → Int32)))) (hk25 : ∀ (v31 : (Nat → Int32)), jo X 4 (0, 0) (jQI X (fun (u : (Nat → Int32)) => [(h_, .inr (7, [.int c_nullable, g_first, g_follow, .ref h_begins])), (h_begins, .inl (tc.1, 8, .inl u)), (h_p1, .inr (6, [.ref h_p1_codes, .int c_p1_count])), (h_p1_codes, .inl (tc.1, 24, .inl c_p1_codes))])) (k25 v31) [(h_, .inr (7, [.int c_nullable, g_first, g_follow, .ref h_begins])), (h_begins, .inl (tc.1, 8, .inl v31)), (h_p1, .inr (6, [.ref h_p1_codes, .int c_p1_count])), (h_p1_codes, .inl (tc.1, 24, .inl c_p1_codes))] 21 [(0, .ref h_), (1, .ref h_p1)] []) (rc28 : Int32 → (Nat → Int32) → Option (Int32 × (Nat → Int32))) (hrc28 : ∀ (v26 : Int32) (v27 : (Nat → Int32)), jo X 4 (0, 0) (jQI X (fun (u : (Nat → Int32)) => [(h_, .inr (7, [.int c_nullable, g_first, g_follow, .ref h_begins])), (h_begins, .inl (tc.1, 8, .inl u)), (h_p1, .inr (6, [.ref h_p1_codes, .int c_p1_count])), (h_p1_codes, .inl (tc.1, 24, .inl c_p1_codes))])) (rc28 v26 v27) [(h_, .inr (7, [.int c_nullable, g_first, g_follow, .ref h_begins])), (h_begins, .inl (tc.1, 8, .inl v27)), (h_p1, .inr (6, [.ref h_p1_codes, .int c_p1_count])), (h_p1_codes, .inl (tc.1, 24, .inl c_p1_codes))] 2 [(0, .ref h_), (1, .ref h_p1), (2, .int v26)] []) (v26 : Int32) (v27 : (Nat → Int32)) : jo X 4 (0, 0) (jQI X (fun (u : (Nat → Int32)) => [(h_, .inr (7, [.int c_nullable, g_first, g_follow, .ref h_begins])), (h_begins, .inl (tc.1, 8, .inl u)), (h_p1, .inr (6, [.ref h_p1_codes, .int c_p1_count])), (h_p1_codes, .inl (tc.1, 24, .inl c_p1_codes))])) (bX7_leftRecursiveOnes_2 k25 rc28 v26 v27) [(h_, .inr (7, [.int c_nullable, g_first, g_follow, .ref h_begins])), (h_begins, .inl (tc.1, 8, .inl v27)), (h_p1, .inr (6, [.ref h_p1_codes, .int c_p1_count])), (h_p1_codes, .inl (tc.1, 24, .inl c_p1_codes))] 2 [(0, .ref h_), (1, .ref h_p1), (2, .int v26)] [] := by
  unfold bX7_leftRecursiveOnes_2
  refine j_iload C d7_leftRecursiveOnes_2 2 rfl ?_
  refine j_const C d7_leftRecursiveOnes_3 ?_
  refine j_icmp_ge C d7_leftRecursiveOnes_5 ?_ ?_
  · exact j_sub [0, 1] rfl (hk25 _)
  · refine j_aload C d7_leftRecursiveOnes_8 0 rfl ?_
    refine j_get C d7_leftRecursiveOnes_9 fl7_18 0 rfl rfl ?_
    refine j_iload C d7_leftRecursiveOnes_12 2 rfl ?_
    refine j_const C d7_leftRecursiveOnes_13 ?_
    refine j_iast C (fun f29 => [(h_, .inr (7, [.int c_nullable, g_first, g_follow, .ref h_begins])), (h_begins, .inl (tc.1, 8, .inl f29)), (h_p1, .inr (6, [.ref h_p1_codes, .int c_p1_count])), (h_p1_codes, .inl (tc.1, 24, .inl c_p1_codes))]) d7_leftRecursiveOnes_14 1 rfl (fun _ => rfl) (fun f29 => ?_)
    refine j_iincN C (fun x30 => [(2, .int x30), (0, .ref h_), (1, .ref h_p1)]) d7_leftRecursiveOnes_15 2 rfl (by decide +kernel) (by decide) (fun _ => rfl) (fun x30 => ?_)
    refine j_goto C d7_leftRecursiveOnes_18 ?_
    exact j_sub [1, 2, 0] rfl (hrc28 _ _)

set_option maxHeartbeats 4000000 in
set_option maxRecDepth 100000 in
theorem kX7_leftRecursiveOnes (l : Launch) (D : va_G) (tc : jTC) (N : Nat) (h_ h_begins h_p1 h_p1_codes : Nat) (g_first g_follow : Value) (c_nullable : Int32) (c_begins : (Nat → Int32)) (c_p1_codes : (Nat → Int32)) (c_p1_count : Int32) : ctI l D tc yX7_leftRecursiveOnes (Cond.code yX7_leftRecursiveOnes cX7_leftRecursiveOnes 4 (some .int) :: jtb) ({ frames := 3, cells := 0, slots := 0, locals := 66 } : Room) [.ref h_, .ref h_p1] [(h_, .inr (7, [.int c_nullable, g_first, g_follow, .ref h_begins])), (h_begins, .inl (tc.1, 8, .inl c_begins)), (h_p1, .inr (6, [.ref h_p1_codes, .int c_p1_count])), (h_p1_codes, .inl (tc.1, 24, .inl c_p1_codes))] (fX7_leftRecursiveOnes N c_nullable c_begins c_p1_codes c_p1_count) (fun (u : (Nat → Int32)) => [(h_, .inr (7, [.int c_nullable, g_first, g_follow, .ref h_begins])), (h_begins, .inl (tc.1, 8, .inl u)), (h_p1, .inr (6, [.ref h_p1_codes, .int c_p1_count])), (h_p1_codes, .inl (tc.1, 24, .inl c_p1_codes))]) := by
  refine ctI_of (lv0 := [(0, .ref h_), (1, .ref h_p1)]) (by decide +kernel) (Nat.le_of_ble_eq_true rfl) rfl (fun X C => ?_)
  unfold fX7_leftRecursiveOnes
  refine j_const C d7_leftRecursiveOnes_0 ?_
  refine j_istore C d7_leftRecursiveOnes_1 (by decide) (lv' := [(2, .int 0), (0, .ref h_), (1, .ref h_p1)]) rfl ?_
  refine j_join 21 (fun v1 => [(h_, .inr (7, [.int c_nullable, g_first, g_follow, .ref h_begins])), (h_begins, .inl (tc.1, 8, .inl v1)), (h_p1, .inr (6, [.ref h_p1_codes, .int c_p1_count])), (h_p1_codes, .inl (tc.1, 24, .inl c_p1_codes))]) (fun v1 => [(0, .ref h_), (1, .ref h_p1)]) (fun v1 => []) (fun v1 => ?_) (fun k25 hk25 => ?_)
  · refine j_const C d7_leftRecursiveOnes_21 ?_
    refine j_istore C d7_leftRecursiveOnes_22 (by decide) (lv' := [(2, .int 0), (0, .ref h_), (1, .ref h_p1)]) rfl ?_
    refine j_join 64 (fun v2 => [(h_, .inr (7, [.int c_nullable, g_first, g_follow, .ref h_begins])), (h_begins, .inl (tc.1, 8, .inl v2)), (h_p1, .inr (6, [.ref h_p1_codes, .int c_p1_count])), (h_p1_codes, .inl (tc.1, 24, .inl c_p1_codes))]) (fun v2 => [(0, .ref h_)]) (fun v2 => []) (fun v2 => ?_) (fun k13 hk13 => ?_)
    · refine j_aload C d7_leftRecursiveOnes_64 0 rfl ?_
      refine j_callVV (As := []) C d7_leftRecursiveOnes_65 mv7_86 (kX7_closeBegins _ _ tc N h_ h_begins (.int c_nullable) g_first g_follow v2) ⟨rfl, rfl, Nat.le_of_ble_eq_true rfl, Nat.le_of_ble_eq_true rfl⟩ rfl 0 rfl [0, 1] rfl rfl rfl (Nat.le_of_ble_eq_true rfl) (fun o3 => [(h_, .inr (7, [.int c_nullable, g_first, g_follow, .ref h_begins])), (h_begins, .inl (tc.1, 8, .inl o3)), (h_p1, .inr (6, [.ref h_p1_codes, .int c_p1_count])), (h_p1_codes, .inl (tc.1, 24, .inl c_p1_codes))]) [(true, 0), (true, 1), (false, 2), (false, 3)] (fun _ => rfl) (by decide +kernel) (fun o3 => ?_)
      refine j_const C d7_leftRecursiveOnes_68 ?_
      refine j_istore C d7_leftRecursiveOnes_69 (by decide) (lv' := [(2, .int 0), (0, .ref h_)]) rfl ?_
      refine j_const C d7_leftRecursiveOnes_70 ?_
      refine j_istore C d7_leftRecursiveOnes_71 (by decide) (lv' := [(3, .int 0), (2, .int 0), (0, .ref h_)]) rfl ?_
      refine j_join 97 (fun v4 => [(h_, .inr (7, [.int c_nullable, g_first, g_follow, .ref h_begins])), (h_begins, .inl (tc.1, 8, .inl o3)), (h_p1, .inr (6, [.ref h_p1_codes, .int c_p1_count])), (h_p1_codes, .inl (tc.1, 24, .inl c_p1_codes))]) (fun v4 => [(2, .int v4)]) (fun v4 => []) (fun v4 => ?_) (fun k5 hk5 => ?_)
      · refine j_iload C d7_leftRecursiveOnes_97 0 rfl ?_
        exact j_iret C d7_leftRecursiveOnes_98 rfl
      · exact j_sub [2, 1, 0] rfl (j_loop2 (fun v6 v7 => [(h_, .inr (7, [.int c_nullable, g_first, g_follow, .ref h_begins])), (h_begins, .inl (tc.1, 8, .inl o3)), (h_p1, .inr (6, [.ref h_p1_codes, .int c_p1_count])), (h_p1_codes, .inl (tc.1, 24, .inl c_p1_codes))]) (fun v6 v7 => [(0, .ref h_), (2, .int v6), (3, .int v7)]) (fun rc8 hrc8 v6 v7 => wX7_leftRecursiveOnes_72 C h_ h_begins h_p1 h_p1_codes g_first g_follow c_nullable c_p1_codes c_p1_count o3 k5 hk5 rc8 hrc8 v6 v7) N _ _)
    · exact j_sub [1, 2, 0] rfl (j_loop2 (fun v14 v15 => [(h_, .inr (7, [.int c_nullable, g_first, g_follow, .ref h_begins])), (h_begins, .inl (tc.1, 8, .inl v15)), (h_p1, .inr (6, [.ref h_p1_codes, .int c_p1_count])), (h_p1_codes, .inl (tc.1, 24, .inl c_p1_codes))]) (fun v14 v15 => [(0, .ref h_), (1, .ref h_p1), (2, .int v14)]) (fun rc16 hrc16 v14 v15 => wX7_leftRecursiveOnes_23 C N h_ h_begins h_p1 h_p1_codes g_first g_follow c_nullable c_p1_codes c_p1_count k13 hk13 rc16 hrc16 v14 v15) N _ _)
  · exact j_sub [1, 2, 0] rfl (j_loop2 (fun v26 v27 => [(h_, .inr (7, [.int c_nullable, g_first, g_follow, .ref h_begins])), (h_begins, .inl (tc.1, 8, .inl v27)), (h_p1, .inr (6, [.ref h_p1_codes, .int c_p1_count])), (h_p1_codes, .inl (tc.1, 24, .inl c_p1_codes))]) (fun v26 v27 => [(0, .ref h_), (1, .ref h_p1), (2, .int v26)]) (fun rc28 hrc28 v26 v27 => wX7_leftRecursiveOnes_2 C h_ h_begins h_p1 h_p1_codes g_first g_follow c_nullable c_p1_codes c_p1_count k25 hk25 rc28 hrc28 v26 v27) N _ _)

