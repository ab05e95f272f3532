theorem d7_become_0 : jda cX7_become 0 0 1 := Or.inl ⟨0, by decide +kernel⟩
theorem d7_become_1 : jda cX7_become 1 1 2 := Or.inl ⟨1, by decide +kernel⟩
theorem d7_become_2 : jd cX7_become 2 (.getfield 21) 3 5 := by decide +kernel
theorem d7_become_5 : jd cX7_become 5 (.putfield 21) 3 8 := by decide +kernel
theorem d7_become_8 : jda cX7_become 8 1 9 := Or.inl ⟨1, by decide +kernel⟩
theorem d7_become_9 : jd cX7_become 9 (.getfield 9) 3 12 := by decide +kernel
theorem d7_become_12 : jdk cX7_become 12 0 13 := Or.inl ⟨0, by decide +kernel⟩
theorem d7_become_13 : jda cX7_become 13 0 14 := Or.inl ⟨0, by decide +kernel⟩
theorem d7_become_14 : jd cX7_become 14 (.getfield 9) 3 17 := by decide +kernel
theorem d7_become_17 : jdk cX7_become 17 0 18 := Or.inl ⟨0, by decide +kernel⟩
theorem d7_become_18 : jdk cX7_become 18 8 20 := Or.inr (Or.inl ⟨8, by decide +kernel⟩)
theorem d7_become_20 : jd cX7_become 20 (.invokestatic 25) 3 23 := by decide +kernel
theorem d7_become_23 : jda cX7_become 23 1 24 := Or.inl ⟨1, by decide +kernel⟩
theorem d7_become_24 : jd cX7_become 24 (.getfield 15) 3 27 := by decide +kernel
theorem d7_become_27 : jdk cX7_become 27 0 28 := Or.inl ⟨0, by decide +kernel⟩
theorem d7_become_28 : jda cX7_become 28 0 29 := Or.inl ⟨0, by decide +kernel⟩
theorem d7_become_29 : jd cX7_become 29 (.getfield 15) 3 32 := by decide +kernel
theorem d7_become_32 : jdk cX7_become 32 0 33 := Or.inl ⟨0, by decide +kernel⟩
theorem d7_become_33 : jdk cX7_become 33 8 35 := Or.inr (Or.inl ⟨8, by decide +kernel⟩)
theorem d7_become_35 : jd cX7_become 35 (.invokestatic 25) 3 38 := by decide +kernel
theorem d7_become_38 : decode cX7_become 38 = .ok (.return_, 1) := by decide +kernel
set_option maxHeartbeats 4000000 in
set_option maxRecDepth 100000 in
theorem kX7_become (l : Launch) (D : va_G) (tc : jTC) (h_ h_first h_follow h_p1 h_p1_first h_p1_follow : Nat) (g_begins g_p1_begins : Value) (c_nullable : Int32) (c_first : (Nat → Int32)) (c_follow : (Nat → Int32)) (c_p1_nullable : Int32) (c_p1_first : (Nat → Int32)) (c_p1_follow : (Nat → Int32)) : ctV l D tc yX7_become (Cond.code yX7_become cX7_become 2 none :: jtb) ({ frames := 1, cells := 0, slots := 0, locals := 40 } : Room) [.ref h_, .ref h_p1] [(h_, .inr (7, [.int c_nullable, .ref h_first, .ref h_follow, g_begins])), (h_first, .inl (tc.1, 8, .inl c_first)), (h_follow, .inl (tc.1, 8, .inl c_follow)), (h_p1, .inr (7, [.int c_p1_nullable, .ref h_p1_first, .ref h_p1_follow, g_p1_begins])), (h_p1_first, .inl (tc.1, 8, .inl c_p1_first)), (h_p1_follow, .inl (tc.1, 8, .inl c_p1_follow))] (fX7_become c_nullable c_first c_follow c_p1_nullable c_p1_first c_p1_follow) (fun (u : Int32 × (Nat → Int32) × (Nat → Int32)) => [(h_, .inr (7, [.int u.1, .ref h_first, .ref h_follow, g_begins])), (h_first, .inl (tc.1, 8, .inl u.2.1)), (h_follow, .inl (tc.1, 8, .inl u.2.2)), (h_p1, .inr (7, [.int c_p1_nullable, .ref h_p1_first, .ref h_p1_follow, g_p1_begins])), (h_p1_first, .inl (tc.1, 8, .inl c_p1_first)), (h_p1_follow, .inl (tc.1, 8, .inl c_p1_follow))]) := by
  refine ctV_of (lv0 := [(0, .ref h_), (1, .ref h_p1)]) (by decide +kernel) (Nat.le_of_ble_eq_true rfl) rfl (fun X C => ?_)
  unfold fX7_become
  refine j_aload C d7_become_0 0 rfl ?_
  refine j_aload C d7_become_1 1 rfl ?_
  refine j_get C d7_become_2 fl7_21 3 rfl rfl ?_
  refine j_putq C d7_become_5 fq7_21 0 rfl rfl rfl (Nat.le_of_ble_eq_true rfl) (ws' := [(h_, .inr (7, [.int c_p1_nullable, .ref h_first, .ref h_follow, g_begins])), (h_first, .inl (tc.1, 8, .inl c_first)), (h_follow, .inl (tc.1, 8, .inl c_follow)), (h_p1, .inr (7, [.int c_p1_nullable, .ref h_p1_first, .ref h_p1_follow, g_p1_begins])), (h_p1_first, .inl (tc.1, 8, .inl c_p1_first)), (h_p1_follow, .inl (tc.1, 8, .inl c_p1_follow))]) rfl ?_
  refine j_aload C d7_become_8 1 rfl ?_
  refine j_get C d7_become_9 fl7_9 3 rfl rfl ?_
  refine j_const C d7_become_12 ?_
  refine j_aload C d7_become_13 0 rfl ?_
  refine j_get C d7_become_14 fl7_9 0 rfl rfl ?_
  refine j_const C d7_become_17 ?_
  refine j_const C d7_become_18 ?_
  refine j_copyi C (fun f1 => [(h_, .inr (7, [.int c_p1_nullable, .ref h_first, .ref h_follow, g_begins])), (h_first, .inl (tc.1, 8, .inl f1)), (h_follow, .inl (tc.1, 8, .inl c_follow)), (h_p1, .inr (7, [.int c_p1_nullable, .ref h_p1_first, .ref h_p1_follow, g_p1_begins])), (h_p1_first, .inl (tc.1, 8, .inl c_p1_first)), (h_p1_follow, .inl (tc.1, 8, .inl c_p1_follow))]) d7_become_20 kj7_25 ⟨Nat.le_of_ble_eq_true rfl, Nat.le_of_ble_eq_true rfl⟩ (Nat.le_of_ble_eq_true rfl) 4 1 rfl rfl (fun _ => rfl) (fun f1 => ?_)
  refine j_aload C d7_become_23 1 rfl ?_
  refine j_get C d7_become_24 fl7_15 3 rfl rfl ?_
  refine j_const C d7_become_27 ?_
  refine j_aload C d7_become_28 0 rfl ?_
  refine j_get C d7_become_29 fl7_15 0 rfl rfl ?_
  refine j_const C d7_become_32 ?_
  refine j_const C d7_become_33 ?_
  refine j_copyi C (fun f2 => [(h_, .inr (7, [.int c_p1_nullable, .ref h_first, .ref h_follow, g_begins])), (h_first, .inl (tc.1, 8, .inl f1)), (h_follow, .inl (tc.1, 8, .inl f2)), (h_p1, .inr (7, [.int c_p1_nullable, .ref h_p1_first, .ref h_p1_follow, g_p1_begins])), (h_p1_first, .inl (tc.1, 8, .inl c_p1_first)), (h_p1_follow, .inl (tc.1, 8, .inl c_p1_follow))]) d7_become_35 kj7_25 ⟨Nat.le_of_ble_eq_true rfl, Nat.le_of_ble_eq_true rfl⟩ (Nat.le_of_ble_eq_true rfl) 5 2 rfl rfl (fun _ => rfl) (fun f2 => ?_)
  exact j_vret C d7_become_38 rfl

theorem d7_differences_0 : jdk cX7_differences 0 0 1 := Or.inl ⟨0, by decide +kernel⟩
theorem d7_differences_1 : jds cX7_differences 1 2 2 := Or.inl ⟨2, by decide +kernel⟩
theorem d7_differences_2 : jdk cX7_differences 2 0 3 := Or.inl ⟨0, by decide +kernel⟩
theorem d7_differences_3 : jds cX7_differences 3 3 4 := Or.inl ⟨3, by decide +kernel⟩
theorem d7_differences_4 : jdi cX7_differences 4 3 5 := Or.inl ⟨3, by decide +kernel⟩
theorem d7_differences_5 : jdk cX7_differences 5 8 7 := Or.inr (Or.inl ⟨8, by decide +kernel⟩)
theorem d7_differences_7 : jdb cX7_differences 7 (.if_icmp .ge 73) 73 80 10 := by decide +kernel
theorem d7_differences_10 : jda cX7_differences 10 0 11 := Or.inl ⟨0, by decide +kernel⟩
theorem d7_differences_11 : jd cX7_differences 11 (.getfield 21) 3 14 := by decide +kernel
theorem d7_differences_14 : jdi cX7_differences 14 3 15 := Or.inl ⟨3, by decide +kernel⟩
theorem d7_differences_15 : jd cX7_differences 15 (.invokestatic 31) 3 18 := by decide +kernel
theorem d7_differences_18 : jda cX7_differences 18 1 19 := Or.inl ⟨1, by decide +kernel⟩
theorem d7_differences_19 : jd cX7_differences 19 (.getfield 21) 3 22 := by decide +kernel
theorem d7_differences_22 : jdi cX7_differences 22 3 23 := Or.inl ⟨3, by decide +kernel⟩
theorem d7_differences_23 : jd cX7_differences 23 (.invokestatic 31) 3 26 := by decide +kernel
theorem d7_differences_26 : jdb cX7_differences 26 (.if_icmp .ne 37) 37 63 29 := by decide +kernel
theorem d7_differences_29 : jda cX7_differences 29 0 30 := Or.inl ⟨0, by decide +kernel⟩
theorem d7_differences_30 : jd cX7_differences 30 (.getfield 9) 3 33 := by decide +kernel
theorem d7_differences_33 : jdi cX7_differences 33 3 34 := Or.inl ⟨3, by decide +kernel⟩
theorem d7_differences_34 : jd cX7_differences 34 (.iaload) 1 35 := by decide +kernel
theorem d7_differences_35 : jda cX7_differences 35 1 36 := Or.inl ⟨1, by decide +kernel⟩
theorem d7_differences_36 : jd cX7_differences 36 (.getfield 9) 3 39 := by decide +kernel
theorem d7_differences_39 : jdi cX7_differences 39 3 40 := Or.inl ⟨3, by decide +kernel⟩
theorem d7_differences_40 : jd cX7_differences 40 (.iaload) 1 41 := by decide +kernel
theorem d7_differences_41 : jdb cX7_differences 41 (.if_icmp .ne 22) 22 63 44 := by decide +kernel
theorem d7_differences_44 : jda cX7_differences 44 0 45 := Or.inl ⟨0, by decide +kernel⟩
theorem d7_differences_45 : jd cX7_differences 45 (.getfield 15) 3 48 := by decide +kernel
theorem d7_differences_48 : jdi cX7_differences 48 3 49 := Or.inl ⟨3, by decide +kernel⟩
theorem d7_differences_49 : jd cX7_differences 49 (.iaload) 1 50 := by decide +kernel
theorem d7_differences_50 : jda cX7_differences 50 1 51 := Or.inl ⟨1, by decide +kernel⟩
theorem d7_differences_51 : jd cX7_differences 51 (.getfield 15) 3 54 := by decide +kernel
theorem d7_differences_54 : jdi cX7_differences 54 3 55 := Or.inl ⟨3, by decide +kernel⟩
theorem d7_differences_55 : jd cX7_differences 55 (.iaload) 1 56 := by decide +kernel
theorem d7_differences_56 : jdb cX7_differences 56 (.if_icmp .ne 7) 7 63 59 := by decide +kernel
theorem d7_differences_59 : jdk cX7_differences 59 1 60 := Or.inl ⟨1, by decide +kernel⟩
theorem d7_differences_60 : jdb cX7_differences 60 (.goto 4) 4 64 63 := by decide +kernel
theorem d7_differences_63 : jdk cX7_differences 63 0 64 := Or.inl ⟨0, by decide +kernel⟩
theorem d7_differences_64 : jds cX7_differences 64 4 66 := Or.inr (by decide +kernel)
theorem d7_differences_66 : jdi cX7_differences 66 4 68 := Or.inr (by decide +kernel)
theorem d7_differences_68 : jdb cX7_differences 68 (.ifCond .ne 6) 6 74 71 := by decide +kernel
theorem d7_differences_71 : jd cX7_differences 71 (.iinc 2 1) 3 74 := by decide +kernel
theorem d7_differences_74 : jd cX7_differences 74 (.iinc 3 1) 3 77 := by decide +kernel
theorem d7_differences_77 : jdb cX7_differences 77 (.goto (-73)) (-73) 4 80 := by decide +kernel
theorem d7_differences_80 : jdi cX7_differences 80 2 81 := Or.inl ⟨2, by decide +kernel⟩
theorem d7_differences_81 : decode cX7_differences 81 = .ok (.ireturn, 1) := by decide +kernel
set_option maxHeartbeats 4000000 in
set_option maxRecDepth 100000 in
theorem wX7_differences_4 {X : jC} {tc : jTC} (C : jx X cX7_differences 5 RX7 (some .int) tc ({ frames := 1, cells := 0, slots := 0, locals := 21 } : Room)) (h_ h_first h_follow h_p1 h_p1_first h_p1_follow : Nat) (g_begins g_p1_begins : Value) (c_nullable : Int32) (c_first : (Nat → Int32)) (c_follow : (Nat → Int32)) (c_p1_nullable : Int32) (c_p1_first : (Nat → Int32)) (c_p1_follow : (Nat → Int32)) (k2 : (Int32 → Option (Int32))) (hk2 : ∀ w19 : Int32, jo X 5 (0, 0) (jQI0 X [(h_, .inr (7, [.int c_nullable, .ref h_first, .ref h_follow, g_begins])), (h_first, .inl (tc.1, 8, .inl c_first)), (h_follow, .inl (tc.1, 8, .inl c_follow)), (h_p1, .inr (7, [.int c_p1_nullable, .ref h_p1_first, .ref h_p1_follow, g_p1_begins])), (h_p1_first, .inl (tc.1, 8, .inl c_p1_first)), (h_p1_follow, .inl (tc.1, 8, .inl c_p1_follow))]) (k2 w19) [(h_, .inr (7, [.int c_nullable, .ref h_first, .ref h_follow, g_begins])), (h_first, .inl (tc.1, 8, .inl c_first)), (h_follow, .inl (tc.1, 8, .inl c_follow)), (h_p1, .inr (7, [.int c_p1_nullable, .ref h_p1_first, .ref h_p1_follow, g_p1_begins])), (h_p1_first, .inl (tc.1, 8, .inl c_p1_first)), (h_p1_follow, .inl (tc.1, 8, .inl c_p1_follow))] 80 [(2, .int w19)] []) (rc4 : Int32 × Int32 → Option (Int32)) (hrc4 : ∀ v3 : Int32 × Int32, jo X 5 (0, 0) (jQI0 X [(h_, .inr (7, [.int c_nullable, .ref h_first, .ref h_follow, g_begins])), (h_first, .inl (tc.1, 8, .inl c_first)), (h_follow, .inl (tc.1, 8, .inl c_follow)), (h_p1, .inr (7, [.int c_p1_nullable, .ref h_p1_first, .ref h_p1_follow, g_p1_begins])), (h_p1_first, .inl (tc.1, 8, .inl c_p1_first)), (h_p1_follow, .inl (tc.1, 8, .inl c_p1_follow))]) (rc4 v3) [(h_, .inr (7, [.int c_nullable, .ref h_first, .ref h_follow, g_begins])), (h_first, .inl (tc.1, 8, .inl c_first)), (h_follow, .inl (tc.1, 8, .inl c_follow)), (h_p1, .inr (7, [.int c_p1_nullable, .ref h_p1_first, .ref h_p1_follow, g_p1_begins])), (h_p1_first, .inl (tc.1, 8, .inl c_p1_first)), (h_p1_follow, .inl (tc.1, 8, .inl c_p1_follow))] 4 [(0, .ref h_), (1, .ref h_p1), (2, .int v3.1), (3, .int v3.2)] []) (v3 : Int32 × Int32) : jo X 5 (0, 0) (jQI0 X [(h_, .inr (7, [.int c_nullable, .ref h_first, .ref h_follow, g_begins])), (h_first, .inl (tc.1, 8, .inl c_first)), (h_follow, .inl (tc.1, 8, .inl c_follow)), (h_p1, .inr (7, [.int c_p1_nullable, .ref h_p1_first, .ref h_p1_follow, g_p1_begins])), (h_p1_first, .inl (tc.1, 8, .inl c_p1_first)), (h_p1_follow, .inl (tc.1, 8, .inl c_p1_follow))]) (bX7_differences_4 c_nullable c_first c_follow c_p1_nullable c_p1_first c_p1_follow k2 rc4 v3) [(h_, .inr (7, [.int c_nullable, .ref h_first, .ref h_follow, g_begins])), (h_first, .inl (tc.1, 8, .inl c_first)), (h_follow, .inl (tc.1, 8, .inl c_follow)), (h_p1, .inr (7, [.int c_p1_nullable, .ref h_p1_first, .ref h_p1_follow, g_p1_begins])), (h_p1_first, .inl (tc.1, 8, .inl c_p1_first)), (h_p1_follow, .inl (tc.1, 8, .inl c_p1_follow))] 4 [(0, .ref h_), (1, .ref h_p1), (2, .int v3.1), (3, .int v3.2)] [] := by
  unfold bX7_differences_4
  refine j_iload C d7_differences_4 3 rfl ?_
  refine j_const C d7_differences_5 ?_
  refine j_icmp_ge C d7_differences_7 ?_ ?_
  · exact j_sub [2] rfl (hk2 _)
  · refine j_aload C d7_differences_10 0 rfl ?_
    refine j_get C d7_differences_11 fl7_21 0 rfl rfl ?_
    refine j_iload C d7_differences_14 3 rfl ?_
    refine j_callNI0 (As := [.int c_nullable, .int v3.2]) C d7_differences_15 mn7_31 (kX11_bit _ _ tc c_nullable v3.2) ⟨rfl, rfl, Nat.le_of_ble_eq_true rfl, Nat.le_of_ble_eq_true rfl⟩ rfl [] rfl rfl rfl (Nat.le_of_ble_eq_true rfl) (fun x5 => ?_)
    refine j_aload C d7_differences_18 1 rfl ?_
    refine j_get C d7_differences_19 fl7_21 3 rfl rfl ?_
    refine j_iload C d7_differences_22 3 rfl ?_
    refine j_callNI0 (As := [.int c_p1_nullable, .int v3.2]) C d7_differences_23 mn7_31 (kX11_bit _ _ tc c_p1_nullable v3.2) ⟨rfl, rfl, Nat.le_of_ble_eq_true rfl, Nat.le_of_ble_eq_true rfl⟩ rfl [] rfl rfl rfl (Nat.le_of_ble_eq_true rfl) (fun x6 => ?_)
    refine j_join 64 (fun v7 => [(h_, .inr (7, [.int c_nullable, .ref h_first, .ref h_follow, g_begins])), (h_first, .inl (tc.1, 8, .inl c_first)), (h_follow, .inl (tc.1, 8, .inl c_follow)), (h_p1, .inr (7, [.int c_p1_nullable, .ref h_p1_first, .ref h_p1_follow, g_p1_begins])), (h_p1_first, .inl (tc.1, 8, .inl c_p1_first)), (h_p1_follow, .inl (tc.1, 8, .inl c_p1_follow))]) (fun v7 => [(0, .ref h_), (1, .ref h_p1), (2, .int v3.1), (3, .int v3.2)]) (fun v7 => [.int v7]) (fun v7 => ?_) (fun k12 hk12 => ?_)
    · refine j_istore C d7_differences_64 (by decide) (lv' := [(4, .int v7), (0, .ref h_), (1, .ref h_p1), (2, .int v3.1), (3, .int v3.2)]) rfl ?_
      refine j_iload C d7_differences_66 0 rfl ?_
      refine j_join 74 (fun v8 => [(h_, .inr (7, [.int c_nullable, .ref h_first, .ref h_follow, g_begins])), (h_first, .inl (tc.1, 8, .inl c_first)), (h_follow, .inl (tc.1, 8, .inl c_follow)), (h_p1, .inr (7, [.int c_p1_nullable, .ref h_p1_first, .ref h_p1_follow, g_p1_begins])), (h_p1_first, .inl (tc.1, 8, .inl c_p1_first)), (h_p1_follow, .inl (tc.1, 8, .inl c_p1_follow))]) (fun v8 => [(0, .ref h_), (1, .ref h_p1), (2, .int v8), (3, .int v3.2)]) (fun v8 => []) (fun v8 => ?_) (fun k10 hk10 => ?_)
      · refine j_iincN C (fun x9 => [(3, .int x9), (0, .ref h_), (1, .ref h_p1), (2, .int v8)]) d7_differences_74 3 rfl (by decide +kernel) (by decide) (fun _ => rfl) (fun x9 => ?_)
        refine j_goto C d7_differences_77 ?_
        exact j_sub [1, 2, 3, 0] rfl (hrc4 _)
      · refine j_if_ne C d7_differences_68 ?_ ?_
        · exact j_sub [1, 2, 3, 4] rfl (hk10 _)
        · refine j_iincN C (fun x11 => [(2, .int x11), (4, .int v7), (0, .ref h_), (1, .ref h_p1), (3, .int v3.2)]) d7_differences_71 3 rfl (by decide +kernel) (by decide) (fun _ => rfl) (fun x11 => ?_)
          exact j_sub [2, 3, 0, 4] rfl (hk10 _)
    · refine j_join 63 (fun v13 => [(h_, .inr (7, [.int c_nullable, .ref h_first, .ref h_follow, g_begins])), (h_first, .inl (tc.1, 8, .inl c_first)), (h_follow, .inl (tc.1, 8, .inl c_follow)), (h_p1, .inr (7, [.int c_p1_nullable, .ref h_p1_first, .ref h_p1_follow, g_p1_begins])), (h_p1_first, .inl (tc.1, 8, .inl c_p1_first)), (h_p1_follow, .inl (tc.1, 8, .inl c_p1_follow))]) (fun v13 => [(0, .ref h_), (1, .ref h_p1), (2, .int v3.1), (3, .int v3.2)]) (fun v13 => []) (fun v13 => ?_) (fun k14 hk14 => ?_)
      · refine j_const C d7_differences_63 ?_
        exact hk12 _
      · refine j_icmp_ne C d7_differences_26 ?_ ?_
        · exact hk14 _
        · refine j_aload C d7_differences_29 0 rfl ?_
          refine j_get C d7_differences_30 fl7_9 0 rfl rfl ?_
          refine j_iload C d7_differences_33 3 rfl ?_
          refine j_iald C d7_differences_34 1 rfl (fun x15 => ?_)
          refine j_aload C d7_differences_35 1 rfl ?_
          refine j_get C d7_differences_36 fl7_9 3 rfl rfl ?_
          refine j_iload C d7_differences_39 3 rfl ?_
          refine j_iald C d7_differences_40 4 rfl (fun x16 => ?_)
          refine j_icmp_ne C d7_differences_41 ?_ ?_
          · exact hk14 _
          · refine j_aload C d7_differences_44 0 rfl ?_
            refine j_get C d7_differences_45 fl7_15 0 rfl rfl ?_
            refine j_iload C d7_differences_48 3 rfl ?_
            refine j_iald C d7_differences_49 2 rfl (fun x17 => ?_)
            refine j_aload C d7_differences_50 1 rfl ?_
            refine j_get C d7_differences_51 fl7_15 3 rfl rfl ?_
            refine j_iload C d7_differences_54 3 rfl ?_
            refine j_iald C d7_differences_55 5 rfl (fun x18 => ?_)
            refine j_icmp_ne C d7_differences_56 ?_ ?_
            · exact hk14 _
            · refine j_const C d7_differences_59 ?_
              refine j_goto C d7_differences_60 ?_
              exact hk12 _

set_option maxHeartbeats 4000000 in
set_option maxRecDepth 100000 in
theorem kX7_differences (l : Launch) (D : va_G) (tc : jTC) (N : Nat) (h_ h_first h_follow h_p1 h_p1_first h_p1_follow : Nat) (g_begins g_p1_begins : Value) (c_nullable : Int32) (c_first : (Nat → Int32)) (c_follow : (Nat → Int32)) (c_p1_nullable : Int32) (c_p1_first : (Nat → Int32)) (c_p1_follow : (Nat → Int32)) : ctI0 l D tc yX7_differences (Cond.code yX7_differences cX7_differences 5 (some .int) :: jtb) ({ frames := 1, cells := 0, slots := 0, locals := 21 } : Room) [.ref h_, .ref h_p1] [(h_, .inr (7, [.int c_nullable, .ref h_first, .ref h_follow, g_begins])), (h_first, .inl (tc.1, 8, .inl c_first)), (h_follow, .inl (tc.1, 8, .inl c_follow)), (h_p1, .inr (7, [.int c_p1_nullable, .ref h_p1_first, .ref h_p1_follow, g_p1_begins])), (h_p1_first, .inl (tc.1, 8, .inl c_p1_first)), (h_p1_follow, .inl (tc.1, 8, .inl c_p1_follow))] (fX7_differences N c_nullable c_first c_follow c_p1_nullable c_p1_first c_p1_follow) := by
  refine ctI0_of (lv0 := [(0, .ref h_), (1, .ref h_p1)]) (by decide +kernel) (Nat.le_of_ble_eq_true rfl) rfl (fun X C => ?_)
  unfold fX7_differences
  refine j_const C d7_differences_0 ?_
  refine j_istore C d7_differences_1 (by decide) (lv' := [(2, .int 0), (0, .ref h_), (1, .ref h_p1)]) rfl ?_
  refine j_const C d7_differences_2 ?_
  refine j_istore C d7_differences_3 (by decide) (lv' := [(3, .int 0), (2, .int 0), (0, .ref h_), (1, .ref h_p1)]) rfl ?_
  refine j_join 80 (fun v1 => [(h_, .inr (7, [.int c_nullable, .ref h_first, .ref h_follow, g_begins])), (h_first, .inl (tc.1, 8, .inl c_first)), (h_follow, .inl (tc.1, 8, .inl c_follow)), (h_p1, .inr (7, [.int c_p1_nullable, .ref h_p1_first, .ref h_p1_follow, g_p1_begins])), (h_p1_first, .inl (tc.1, 8, .inl c_p1_first)), (h_p1_follow, .inl (tc.1, 8, .inl c_p1_follow))]) (fun v1 => [(2, .int v1)]) (fun v1 => []) (fun v1 => ?_) (fun k2 hk2 => ?_)
  · refine j_iload C d7_differences_80 0 rfl ?_
    exact j_iret0 C d7_differences_81
  · exact j_sub [2, 3, 1, 0] rfl (j_loop (fun v3 => [(h_, .inr (7, [.int c_nullable, .ref h_first, .ref h_follow, g_begins])), (h_first, .inl (tc.1, 8, .inl c_first)), (h_follow, .inl (tc.1, 8, .inl c_follow)), (h_p1, .inr (7, [.int c_p1_nullable, .ref h_p1_first, .ref h_p1_follow, g_p1_begins])), (h_p1_first, .inl (tc.1, 8, .inl c_p1_first)), (h_p1_follow, .inl (tc.1, 8, .inl c_p1_follow))]) (fun v3 => [(0, .ref h_), (1, .ref h_p1), (2, .int v3.1), (3, .int v3.2)]) (fun rc4 hrc4 v3 => wX7_differences_4 C h_ h_first h_follow h_p1 h_p1_first h_p1_follow g_begins g_p1_begins c_nullable c_first c_follow c_p1_nullable c_p1_first c_p1_follow k2 hk2 rc4 hrc4 v3) N _)

theorem d7_isNullable_0 : jdi cX7_isNullable 0 1 1 := Or.inl ⟨1, by decide +kernel⟩
theorem d7_isNullable_1 : jdk cX7_isNullable 1 10 3 := Or.inr (Or.inl ⟨10, by decide +kernel⟩)
theorem d7_isNullable_3 : jdb cX7_isNullable 3 (.if_icmp .lt 22) 22 25 6 := by decide +kernel
theorem d7_isNullable_6 : jda cX7_isNullable 6 0 7 := Or.inl ⟨0, by decide +kernel⟩
theorem d7_isNullable_7 : jd cX7_isNullable 7 (.getfield 21) 3 10 := by decide +kernel
theorem d7_isNullable_10 : jdi cX7_isNullable 10 1 11 := Or.inl ⟨1, by decide +kernel⟩
theorem d7_isNullable_11 : jdk cX7_isNullable 11 10 13 := Or.inr (Or.inl ⟨10, by decide +kernel⟩)
theorem d7_isNullable_13 : jd cX7_isNullable 13 (.isub) 1 14 := by decide +kernel
theorem d7_isNullable_14 : jd cX7_isNullable 14 (.invokestatic 31) 3 17 := by decide +kernel
theorem d7_isNullable_17 : jdk cX7_isNullable 17 1 18 := Or.inl ⟨1, by decide +kernel⟩
theorem d7_isNullable_18 : jdb cX7_isNullable 18 (.if_icmp .ne 7) 7 25 21 := by decide +kernel
theorem d7_isNullable_21 : jdk cX7_isNullable 21 1 22 := Or.inl ⟨1, by decide +kernel⟩
theorem d7_isNullable_22 : jdb cX7_isNullable 22 (.goto 4) 4 26 25 := by decide +kernel
theorem d7_isNullable_25 : jdk cX7_isNullable 25 0 26 := Or.inl ⟨0, by decide +kernel⟩
theorem d7_isNullable_26 : decode cX7_isNullable 26 = .ok (.ireturn, 1) := by decide +kernel
set_option maxHeartbeats 4000000 in
set_option maxRecDepth 100000 in
theorem kX7_isNullable (l : Launch) (D : va_G) (tc : jTC) (h_ : Nat) (g_first g_follow g_begins : Value) (c_nullable : Int32) (p1 : Int32) : ctI0 l D tc yX7_isNullable (Cond.code yX7_isNullable cX7_isNullable 2 (some .boolean) :: jtb) ({ frames := 1, cells := 0, slots := 0, locals := 21 } : Room) [.ref h_, .int p1] [(h_, .inr (7, [.int c_nullable, g_first, g_follow, g_begins]))] (fX7_isNullable c_nullable p1) := by
  refine ctI0_of (lv0 := [(0, .ref h_), (1, .int p1)]) (by decide +kernel) (Nat.le_of_ble_eq_true rfl) rfl (fun X C => ?_)
  unfold fX7_isNullable
  refine j_iload C d7_isNullable_0 1 rfl ?_
  refine j_const C d7_isNullable_1 ?_
  refine j_join 26 (fun v1 => [(h_, .inr (7, [.int c_nullable, g_first, g_follow, g_begins]))]) (fun v1 => []) (fun v1 => [.int v1]) (fun v1 => ?_) (fun k2 hk2 => ?_)
  · refine j_gz (fun hz => ?_)
    exact j_zret0 C hz d7_isNullable_26
  · refine j_join 25 (fun v3 => [(h_, .inr (7, [.int c_nullable, g_first, g_follow, g_begins]))]) (fun v3 => []) (fun v3 => []) (fun v3 => ?_) (fun k4 hk4 => ?_)
    · refine j_const C d7_isNullable_25 ?_
      exact hk2 _
    · refine j_icmp_lt C d7_isNullable_3 ?_ ?_
      · exact j_sub [] rfl (hk4 _)
      · refine j_aload C d7_isNullable_6 0 rfl ?_
        refine j_get C d7_isNullable_7 fl7_21 0 rfl rfl ?_
        refine j_iload C d7_isNullable_10 1 rfl ?_
        refine j_const C d7_isNullable_11 ?_
        refine j_isub C d7_isNullable_13 ?_
        refine j_callNI0 (As := [.int c_nullable, .int (p1 - (10 : Int32))]) C d7_isNullable_14 mn7_31 (kX11_bit _ _ tc c_nullable (p1 - (10 : Int32))) ⟨rfl, rfl, Nat.le_of_ble_eq_true rfl, Nat.le_of_ble_eq_true rfl⟩ rfl [] rfl rfl rfl (Nat.le_of_ble_eq_true rfl) (fun x5 => ?_)
        refine j_const C d7_isNullable_17 ?_
        refine j_icmp_ne C d7_isNullable_18 ?_ ?_
        · exact j_sub [] rfl (hk4 _)
        · refine j_const C d7_isNullable_21 ?_
          refine j_goto C d7_isNullable_22 ?_
          exact j_sub [] rfl (hk2 _)

theorem d7_vanishes_0 : jdi cX7_vanishes 0 2 1 := Or.inl ⟨2, by decide +kernel⟩
theorem d7_vanishes_1 : jds cX7_vanishes 1 3 2 := Or.inl ⟨3, by decide +kernel⟩
theorem d7_vanishes_2 : jdi cX7_vanishes 2 3 3 := Or.inl ⟨3, by decide +kernel⟩
theorem d7_vanishes_3 : jdi cX7_vanishes 3 1 4 := Or.inl ⟨1, by decide +kernel⟩
theorem d7_vanishes_4 : jd cX7_vanishes 4 (.invokestatic 68) 3 7 := by decide +kernel
theorem d7_vanishes_7 : jdb cX7_vanishes 7 (.if_icmp .ge 23) 23 30 10 := by decide +kernel
theorem d7_vanishes_10 : jda cX7_vanishes 10 0 11 := Or.inl ⟨0, by decide +kernel⟩
theorem d7_vanishes_11 : jdi cX7_vanishes 11 1 12 := Or.inl ⟨1, by decide +kernel⟩
theorem d7_vanishes_12 : jdi cX7_vanishes 12 3 13 := Or.inl ⟨3, by decide +kernel⟩
theorem d7_vanishes_13 : jd cX7_vanishes 13 (.invokestatic 71) 3 16 := by decide +kernel
theorem d7_vanishes_16 : jd cX7_vanishes 16 (.invokevirtual 74) 3 19 := by decide +kernel
theorem d7_vanishes_19 : jdb cX7_vanishes 19 (.ifCond .ne 5) 5 24 22 := by decide +kernel
theorem d7_vanishes_22 : jdk cX7_vanishes 22 0 23 := Or.inl ⟨0, by decide +kernel⟩
theorem d7_vanishes_23 : decode cX7_vanishes 23 = .ok (.ireturn, 1) := by decide +kernel
theorem d7_vanishes_24 : jd cX7_vanishes 24 (.iinc 3 1) 3 27 := by decide +kernel
theorem d7_vanishes_27 : jdb cX7_vanishes 27 (.goto (-25)) (-25) 2 30 := by decide +kernel
theorem d7_vanishes_30 : jdk cX7_vanishes 30 1 31 := Or.inl ⟨1, by decide +kernel⟩
theorem d7_vanishes_31 : decode cX7_vanishes 31 = .ok (.ireturn, 1) := by decide +kernel
set_option maxHeartbeats 4000000 in
set_option maxRecDepth 100000 in
theorem wX7_vanishes_2 {X : jC} {tc : jTC} (C : jx X cX7_vanishes 4 RX7 (some .boolean) tc ({ frames := 2, cells := 0, slots := 0, locals := 42 } : Room)) (h_ : Nat) (g_first g_follow g_begins : Value) (p1 : Int32) (c_nullable : Int32) (k2 : (Unit → Option (Int32))) (hk2 : ∀ w9 : Unit, jo X 4 (0, 0) (jQI0 X [(h_, .inr (7, [.int c_nullable, g_first, g_follow, g_begins]))]) (k2 w9) [(h_, .inr (7, [.int c_nullable, g_first, g_follow, g_begins]))] 30 [] []) (rc4 : Int32 → Option (Int32)) (hrc4 : ∀ v3 : Int32, jo X 4 (0, 0) (jQI0 X [(h_, .inr (7, [.int c_nullable, g_first, g_follow, g_begins]))]) (rc4 v3) [(h_, .inr (7, [.int c_nullable, g_first, g_follow, g_begins]))] 2 [(0, .ref h_), (1, .int p1), (3, .int v3)] []) (v3 : Int32) : jo X 4 (0, 0) (jQI0 X [(h_, .inr (7, [.int c_nullable, g_first, g_follow, g_begins]))]) (bX7_vanishes_2 p1 c_nullable k2 rc4 v3) [(h_, .inr (7, [.int c_nullable, g_first, g_follow, g_begins]))] 2 [(0, .ref h_), (1, .int p1), (3, .int v3)] [] := by
  unfold bX7_vanishes_2
  refine j_iload C d7_vanishes_2 2 rfl ?_
  refine j_iload C d7_vanishes_3 1 rfl ?_
  refine j_callSI0 (As := [.int p1]) C d7_vanishes_4 ms7_68 (kX6_lengthOf _ _ tc p1) ⟨rfl, rfl, Nat.le_of_ble_eq_true rfl, Nat.le_of_ble_eq_true rfl⟩ rfl [] rfl rfl rfl (Nat.le_of_ble_eq_true rfl) (fun x5 => ?_)
  refine j_icmp_ge C d7_vanishes_7 ?_ ?_
  · exact j_sub [] rfl (hk2 _)
  · refine j_aload C d7_vanishes_10 0 rfl ?_
    refine j_iload C d7_vanishes_11 1 rfl ?_
    refine j_iload C d7_vanishes_12 2 rfl ?_
    refine j_callSI0 (As := [.int p1, .int v3]) C d7_vanishes_13 ms7_71 (kX6_symbolOf _ _ tc p1 v3) ⟨rfl, rfl, Nat.le_of_ble_eq_true rfl, Nat.le_of_ble_eq_true rfl⟩ rfl [] rfl rfl rfl (Nat.le_of_ble_eq_true rfl) (fun x6 => ?_)
    refine j_callVI0 (As := [.int x6]) C d7_vanishes_16 mv7_74 (kX7_isNullable _ _ tc h_ g_first g_follow g_begins c_nullable x6) ⟨rfl, rfl, Nat.le_of_ble_eq_true rfl, Nat.le_of_ble_eq_true rfl⟩ rfl 0 rfl [0] rfl rfl rfl (Nat.le_of_ble_eq_true rfl) (fun x7 => ?_)
    refine j_if_ne C d7_vanishes_19 ?_ ?_
    · refine j_iincN C (fun x8 => [(3, .int x8), (0, .ref h_), (1, .int p1)]) d7_vanishes_24 2 rfl (by decide +kernel) (by decide) (fun _ => rfl) (fun x8 => ?_)
      refine j_goto C d7_vanishes_27 ?_
      exact j_sub [1, 2, 0] rfl (hrc4 _)
    · refine j_const C d7_vanishes_22 ?_
      exact j_zret0 C (by decide) d7_vanishes_23

set_option maxHeartbeats 4000000 in
set_option maxRecDepth 100000 in
theorem kX7_vanishes (l : Launch) (D : va_G) (tc : jTC) (N : Nat) (h_ : Nat) (g_first g_follow g_begins : Value) (c_nullable : Int32) (p1 : Int32) (p2 : Int32) : ctI0 l D tc yX7_vanishes (Cond.code yX7_vanishes cX7_vanishes 4 (some .boolean) :: jtb) ({ frames := 2, cells := 0, slots := 0, locals := 42 } : Room) [.ref h_, .int p1, .int p2] [(h_, .inr (7, [.int c_nullable, g_first, g_follow, g_begins]))] (fX7_vanishes N c_nullable p1 p2) := by
  refine ctI0_of (lv0 := [(0, .ref h_), (1, .int p1), (2, .int p2)]) (by decide +kernel) (Nat.le_of_ble_eq_true rfl) rfl (fun X C => ?_)
  unfold fX7_vanishes
  refine j_iload C d7_vanishes_0 2 rfl ?_
  refine j_istore C d7_vanishes_1 (by decide) (lv' := [(3, .int p2), (0, .ref h_), (1, .int p1), (2, .int p2)]) rfl ?_
  refine j_join 30 (fun v1 => [(h_, .inr (7, [.int c_nullable, g_first, g_follow, g_begins]))]) (fun v1 => []) (fun v1 => []) (fun v1 => ?_) (fun k2 hk2 => ?_)
  · refine j_const C d7_vanishes_30 ?_
    exact j_zret0 C (by decide) d7_vanishes_31
  · exact j_sub [1, 2, 0] rfl (j_loop (fun v3 => [(h_, .inr (7, [.int c_nullable, g_first, g_follow, g_begins]))]) (fun v3 => [(0, .ref h_), (1, .int p1), (3, .int v3)]) (fun rc4 hrc4 v3 => wX7_vanishes_2 C h_ g_first g_follow g_begins p1 c_nullable k2 hk2 rc4 hrc4 v3) N _)

theorem d7_computeNullable_0 : jdk cX7_computeNullable 0 1 1 := Or.inl ⟨1, by decide +kernel⟩
theorem d7_computeNullable_1 : jds cX7_computeNullable 1 2 2 := Or.inl ⟨2, by decide +kernel⟩
theorem d7_computeNullable_2 : jdk cX7_computeNullable 2 0 3 := Or.inl ⟨0, by decide +kernel⟩
theorem d7_computeNullable_3 : jds cX7_computeNullable 3 3 4 := Or.inl ⟨3, by decide +kernel⟩
theorem d7_computeNullable_4 : jdi cX7_computeNullable 4 3 5 := Or.inl ⟨3, by decide +kernel⟩
theorem d7_computeNullable_5 : jdk cX7_computeNullable 5 1000 8 := Or.inr (Or.inr ⟨1000, by decide +kernel⟩)
theorem d7_computeNullable_8 : jdb cX7_computeNullable 8 (.if_icmp .ge 88) 88 96 11 := by decide +kernel
theorem d7_computeNullable_11 : jdi cX7_computeNullable 11 2 12 := Or.inl ⟨2, by decide +kernel⟩
theorem d7_computeNullable_12 : jdb cX7_computeNullable 12 (.ifCond .eq 84) 84 96 15 := by decide +kernel
theorem d7_computeNullable_15 : jda cX7_computeNullable 15 0 16 := Or.inl ⟨0, by decide +kernel⟩
theorem d7_computeNullable_16 : jd cX7_computeNullable 16 (.getfield 21) 3 19 := by decide +kernel
theorem d7_computeNullable_19 : jds cX7_computeNullable 19 4 21 := Or.inr (by decide +kernel)
theorem d7_computeNullable_21 : jdk cX7_computeNullable 21 0 22 := Or.inl ⟨0, by decide +kernel⟩
theorem d7_computeNullable_22 : jds cX7_computeNullable 22 5 24 := Or.inr (by decide +kernel)
theorem d7_computeNullable_24 : jdi cX7_computeNullable 24 5 26 := Or.inr (by decide +kernel)
theorem d7_computeNullable_26 : jda cX7_computeNullable 26 1 27 := Or.inl ⟨1, by decide +kernel⟩
theorem d7_computeNullable_27 : jd cX7_computeNullable 27 (.getfield 45) 3 30 := by decide +kernel
theorem d7_computeNullable_30 : jdb cX7_computeNullable 30 (.if_icmp .ge 45) 45 75 33 := by decide +kernel
theorem d7_computeNullable_33 : jda cX7_computeNullable 33 0 34 := Or.inl ⟨0, by decide +kernel⟩
theorem d7_computeNullable_34 : jda cX7_computeNullable 34 1 35 := Or.inl ⟨1, by decide +kernel⟩
theorem d7_computeNullable_35 : jd cX7_computeNullable 35 (.getfield 50) 3 38 := by decide +kernel
theorem d7_computeNullable_38 : jdi cX7_computeNullable 38 5 40 := Or.inr (by decide +kernel)
theorem d7_computeNullable_40 : jd cX7_computeNullable 40 (.iaload) 1 41 := by decide +kernel
theorem d7_computeNullable_41 : jdk cX7_computeNullable 41 0 42 := Or.inl ⟨0, by decide +kernel⟩
theorem d7_computeNullable_42 : jd cX7_computeNullable 42 (.invokevirtual 53) 3 45 := by decide +kernel
theorem d7_computeNullable_45 : jdb cX7_computeNullable 45 (.ifCond .eq 24) 24 69 48 := by decide +kernel
theorem d7_computeNullable_48 : jda cX7_computeNullable 48 0 49 := Or.inl ⟨0, by decide +kernel⟩
theorem d7_computeNullable_49 : jd cX7_computeNullable 49 (.dup) 1 50 := by decide +kernel
theorem d7_computeNullable_50 : jd cX7_computeNullable 50 (.getfield 21) 3 53 := by decide +kernel
theorem d7_computeNullable_53 : jdk cX7_computeNullable 53 1 54 := Or.inl ⟨1, by decide +kernel⟩
theorem d7_computeNullable_54 : jda cX7_computeNullable 54 1 55 := Or.inl ⟨1, by decide +kernel⟩
theorem d7_computeNullable_55 : jd cX7_computeNullable 55 (.getfield 50) 3 58 := by decide +kernel
theorem d7_computeNullable_58 : jdi cX7_computeNullable 58 5 60 := Or.inr (by decide +kernel)
theorem d7_computeNullable_60 : jd cX7_computeNullable 60 (.iaload) 1 61 := by decide +kernel
theorem d7_computeNullable_61 : jd cX7_computeNullable 61 (.invokestatic 57) 3 64 := by decide +kernel
theorem d7_computeNullable_64 : jd cX7_computeNullable 64 (.ishl) 1 65 := by decide +kernel
theorem d7_computeNullable_65 : jd cX7_computeNullable 65 (.ior) 1 66 := by decide +kernel
theorem d7_computeNullable_66 : jd cX7_computeNullable 66 (.putfield 21) 3 69 := by decide +kernel
theorem d7_computeNullable_69 : jd cX7_computeNullable 69 (.iinc 5 1) 3 72 := by decide +kernel
theorem d7_computeNullable_72 : jdb cX7_computeNullable 72 (.goto (-48)) (-48) 24 75 := by decide +kernel
theorem d7_computeNullable_75 : jda cX7_computeNullable 75 0 76 := Or.inl ⟨0, by decide +kernel⟩
theorem d7_computeNullable_76 : jd cX7_computeNullable 76 (.getfield 21) 3 79 := by decide +kernel
theorem d7_computeNullable_79 : jdi cX7_computeNullable 79 4 81 := Or.inr (by decide +kernel)
theorem d7_computeNullable_81 : jdb cX7_computeNullable 81 (.if_icmp .eq 7) 7 88 84 := by decide +kernel
theorem d7_computeNullable_84 : jdk cX7_computeNullable 84 1 85 := Or.inl ⟨1, by decide +kernel⟩
theorem d7_computeNullable_85 : jdb cX7_computeNullable 85 (.goto 4) 4 89 88 := by decide +kernel
theorem d7_computeNullable_88 : jdk cX7_computeNullable 88 0 89 := Or.inl ⟨0, by decide +kernel⟩
theorem d7_computeNullable_89 : jds cX7_computeNullable 89 2 90 := Or.inl ⟨2, by decide +kernel⟩
theorem d7_computeNullable_90 : jd cX7_computeNullable 90 (.iinc 3 1) 3 93 := by decide +kernel
theorem d7_computeNullable_93 : jdb cX7_computeNullable 93 (.goto (-89)) (-89) 4 96 := by decide +kernel
theorem d7_computeNullable_96 : decode cX7_computeNullable 96 = .ok (.return_, 1) := by decide +kernel
set_option maxHeartbeats 4000000 in
set_option maxRecDepth 100000 in
theorem wX7_computeNullable_24 {X : jC} {tc : jTC} (C : jx X cX7_computeNullable 6 RX7 none tc ({ frames := 3, cells := 0, slots := 0, locals := 65 } : Room)) (N : Nat) (h_ h_p1 h_p1_codes : Nat) (g_first g_follow g_begins : Value) (c_p1_codes : (Nat → Int32)) (c_p1_count : Int32) (v3 : Int32 × Int32 × Int32) (k9 : (Int32 → Option (Int32))) (hk9 : ∀ w20 : Int32, jo X 6 (0, 0) (jQV X (fun (u : Int32) => [(h_, .inr (7, [.int u, g_first, g_follow, g_begins])), (h_p1, .inr (6, [.ref h_p1_codes, .int c_p1_count])), (h_p1_codes, .inl (tc.1, 24, .inl c_p1_codes))])) (k9 w20) [(h_, .inr (7, [.int w20, g_first, g_follow, g_begins])), (h_p1, .inr (6, [.ref h_p1_codes, .int c_p1_count])), (h_p1_codes, .inl (tc.1, 24, .inl c_p1_codes))] 75 [(0, .ref h_), (1, .ref h_p1), (3, .int v3.2.1), (4, .int v3.2.2)] []) (rc11 : Int32 × Int32 → Option (Int32)) (hrc11 : ∀ v10 : Int32 × Int32, jo X 6 (0, 0) (jQV X (fun (u : Int32) => [(h_, .inr (7, [.int u, g_first, g_follow, g_begins])), (h_p1, .inr (6, [.ref h_p1_codes, .int c_p1_count])), (h_p1_codes, .inl (tc.1, 24, .inl c_p1_codes))])) (rc11 v10) [(h_, .inr (7, [.int v10.2, g_first, g_follow, g_begins])), (h_p1, .inr (6, [.ref h_p1_codes, .int c_p1_count])), (h_p1_codes, .inl (tc.1, 24, .inl c_p1_codes))] 24 [(0, .ref h_), (1, .ref h_p1), (3, .int v3.2.1), (4, .int v3.2.2), (5, .int v10.1)] []) (v10 : Int32 × Int32) : jo X 6 (0, 0) (jQV X (fun (u : Int32) => [(h_, .inr (7, [.int u, g_first, g_follow, g_begins])), (h_p1, .inr (6, [.ref h_p1_codes, .int c_p1_count])), (h_p1_codes, .inl (tc.1, 24, .inl c_p1_codes))])) (bX7_computeNullable_24 N c_p1_codes c_p1_count k9 rc11 v10) [(h_, .inr (7, [.int v10.2, g_first, g_follow, g_begins])), (h_p1, .inr (6, [.ref h_p1_codes, .int c_p1_count])), (h_p1_codes, .inl (tc.1, 24, .inl c_p1_codes))] 24 [(0, .ref h_), (1, .ref h_p1), (3, .int v3.2.1), (4, .int v3.2.2), (5, .int v10.1)] [] := by
  unfold bX7_computeNullable_24
  refine j_iload C d7_computeNullable_24 4 rfl ?_
  refine j_aload C d7_computeNullable_26 1 rfl ?_
  refine j_get C d7_computeNullable_27 fl7_45 1 rfl rfl ?_
  refine j_icmp_ge C d7_computeNullable_30 ?_ ?_
  · exact j_sub [0, 1, 2, 3] rfl (hk9 _)
  · refine j_aload C d7_computeNullable_33 0 rfl ?_
    refine j_aload C d7_computeNullable_34 1 rfl ?_
    refine j_get C d7_computeNullable_35 fl7_50 1 rfl rfl ?_
    refine j_iload C d7_computeNullable_38 4 rfl ?_
    refine j_iald C d7_computeNullable_40 2 rfl (fun x12 => ?_)
    refine j_const C d7_computeNullable_41 ?_
    refine j_callVI0 (As := [.int x12, .int 0]) C d7_computeNullable_42 mv7_53 (kX7_vanishes _ _ tc N h_ g_first g_follow g_begins v10.2 x12 0) ⟨rfl, rfl, Nat.le_of_ble_eq_true rfl, Nat.le_of_ble_eq_true rfl⟩ rfl 0 rfl [0] rfl rfl rfl (Nat.le_of_ble_eq_true rfl) (fun x13 => ?_)
    refine j_join 69 (fun v14 => [(h_, .inr (7, [.int v14, g_first, g_follow, g_begins])), (h_p1, .inr (6, [.ref h_p1_codes, .int c_p1_count])), (h_p1_codes, .inl (tc.1, 24, .inl c_p1_codes))]) (fun v14 => [(0, .ref h_), (1, .ref h_p1), (3, .int v3.2.1), (4, .int v3.2.2), (5, .int v10.1)]) (fun v14 => []) (fun v14 => ?_) (fun k16 hk16 => ?_)
    · refine j_iincN C (fun x15 => [(5, .int x15), (0, .ref h_), (1, .ref h_p1), (3, .int v3.2.1), (4, .int v3.2.2)]) d7_computeNullable_69 4 rfl (by decide +kernel) (by decide) (fun _ => rfl) (fun x15 => ?_)
      refine j_goto C d7_computeNullable_72 ?_
      exact j_sub [1, 2, 3, 4, 0] rfl (hrc11 _)
    · refine j_if_eq C d7_computeNullable_45 ?_ ?_
      · exact hk16 _
      · refine j_aload C d7_computeNullable_48 0 rfl ?_
        refine j_dup C d7_computeNullable_49 rfl ?_
        refine j_get C d7_computeNullable_50 fl7_21 0 rfl rfl ?_
        refine j_const C d7_computeNullable_53 ?_
        refine j_aload C d7_computeNullable_54 1 rfl ?_
        refine j_get C d7_computeNullable_55 fl7_50 1 rfl rfl ?_
        refine j_iload C d7_computeNullable_58 4 rfl ?_
        refine j_iald C d7_computeNullable_60 2 rfl (fun x17 => ?_)
        refine j_callSI0 (As := [.int x17]) C d7_computeNullable_61 ms7_57 (kX6_leftOf _ _ tc x17) ⟨rfl, rfl, Nat.le_of_ble_eq_true rfl, Nat.le_of_ble_eq_true rfl⟩ rfl [] rfl rfl rfl (Nat.le_of_ble_eq_true rfl) (fun x18 => ?_)
        refine j_ishl C d7_computeNullable_64 ?_
        refine j_ior C d7_computeNullable_65 ?_
        refine j_leti (fun x19 => ?_)
        refine j_putq C d7_computeNullable_66 fq7_21 0 rfl rfl rfl (Nat.le_of_ble_eq_true rfl) (ws' := [(h_, .inr (7, [.int x19, g_first, g_follow, g_begins])), (h_p1, .inr (6, [.ref h_p1_codes, .int c_p1_count])), (h_p1_codes, .inl (tc.1, 24, .inl c_p1_codes))]) rfl ?_
        exact hk16 _

set_option maxHeartbeats 4000000 in
set_option maxRecDepth 100000 in
theorem wX7_computeNullable_4 {X : jC} {tc : jTC} (C : jx X cX7_computeNullable 6 RX7 none tc ({ frames := 3, cells := 0, slots := 0, locals := 65 } : Room)) (N : Nat) (h_ h_p1 h_p1_codes : Nat) (g_first g_follow g_begins : Value) (c_p1_codes : (Nat → Int32)) (c_p1_count : Int32) (k2 : (Int32 → Option (Int32))) (hk2 : ∀ w21 : Int32, jo X 6 (0, 0) (jQV X (fun (u : Int32) => [(h_, .inr (7, [.int u, g_first, g_follow, g_begins])), (h_p1, .inr (6, [.ref h_p1_codes, .int c_p1_count])), (h_p1_codes, .inl (tc.1, 24, .inl c_p1_codes))])) (k2 w21) [(h_, .inr (7, [.int w21, g_first, g_follow, g_begins])), (h_p1, .inr (6, [.ref h_p1_codes, .int c_p1_count])), (h_p1_codes, .inl (tc.1, 24, .inl c_p1_codes))] 96 [] []) (rc4 : Int32 × Int32 × Int32 → Option (Int32)) (hrc4 : ∀ v3 : Int32 × Int32 × Int32, jo X 6 (0, 0) (jQV X (fun (u : Int32) => [(h_, .inr (7, [.int u, g_first, g_follow, g_begins])), (h_p1, .inr (6, [.ref h_p1_codes, .int c_p1_count])), (h_p1_codes, .inl (tc.1, 24, .inl c_p1_codes))])) (rc4 v3) [(h_, .inr (7, [.int v3.2.2, g_first, g_follow, g_begins])), (h_p1, .inr (6, [.ref h_p1_codes, .int c_p1_count])), (h_p1_codes, .inl (tc.1, 24, .inl c_p1_codes))] 4 [(0, .ref h_), (1, .ref h_p1), (2, .int v3.1), (3, .int v3.2.1)] []) (v3 : Int32 × Int32 × Int32) : jo X 6 (0, 0) (jQV X (fun (u : Int32) => [(h_, .inr (7, [.int u, g_first, g_follow, g_begins])), (h_p1, .inr (6, [.ref h_p1_codes, .int c_p1_count])), (h_p1_codes, .inl (tc.1, 24, .inl c_p1_codes))])) (bX7_computeNullable_4 N c_p1_codes c_p1_count k2 rc4 v3) [(h_, .inr (7, [.int v3.2.2, g_first, g_follow, g_begins])), (h_p1, .inr (6, [.ref h_p1_codes, .int c_p1_count])), (h_p1_codes, .inl (tc.1, 24, .inl c_p1_codes))] 4 [(0, .ref h_), (1, .ref h_p1), (2, .int v3.1), (3, .int v3.2.1)] [] := by
  unfold bX7_computeNullable_4
  refine j_iload C d7_computeNullable_4 3 rfl ?_
  refine j_const C d7_computeNullable_5 ?_
  refine j_icmp_ge C d7_computeNullable_8 ?_ ?_
  · exact j_sub [] rfl (hk2 _)
  · refine j_iload C d7_computeNullable_11 2 rfl ?_
    refine j_if_eq C d7_computeNullable_12 ?_ ?_
    · exact j_sub [] rfl (hk2 _)
    · refine j_aload C d7_computeNullable_15 0 rfl ?_
      refine j_get C d7_computeNullable_16 fl7_21 0 rfl rfl ?_
      refine j_istore C d7_computeNullable_19 (by decide) (lv' := [(4, .int v3.2.2), (0, .ref h_), (1, .ref h_p1), (2, .int v3.1), (3, .int v3.2.1)]) rfl ?_
      refine j_const C d7_computeNullable_21 ?_
      refine j_istore C d7_computeNullable_22 (by decide) (lv' := [(5, .int 0), (4, .int v3.2.2), (0, .ref h_), (1, .ref h_p1), (2, .int v3.1), (3, .int v3.2.1)]) rfl ?_
      refine j_join 75 (fun v5 => [(h_, .inr (7, [.int v5, g_first, g_follow, g_begins])), (h_p1, .inr (6, [.ref h_p1_codes, .int c_p1_count])), (h_p1_codes, .inl (tc.1, 24, .inl c_p1_codes))]) (fun v5 => [(0, .ref h_), (1, .ref h_p1), (3, .int v3.2.1), (4, .int v3.2.2)]) (fun v5 => []) (fun v5 => ?_) (fun k9 hk9 => ?_)
      · refine j_aload C d7_computeNullable_75 0 rfl ?_
        refine j_get C d7_computeNullable_76 fl7_21 0 rfl rfl ?_
        refine j_iload C d7_computeNullable_79 3 rfl ?_
        refine j_join 89 (fun v6 => [(h_, .inr (7, [.int v5, g_first, g_follow, g_begins])), (h_p1, .inr (6, [.ref h_p1_codes, .int c_p1_count])), (h_p1_codes, .inl (tc.1, 24, .inl c_p1_codes))]) (fun v6 => [(0, .ref h_), (1, .ref h_p1), (3, .int v3.2.1)]) (fun v6 => [.int v6]) (fun v6 => ?_) (fun k8 hk8 => ?_)
        · refine j_istore C d7_computeNullable_89 (by decide) (lv' := [(2, .int v6), (0, .ref h_), (1, .ref h_p1), (3, .int v3.2.1)]) rfl ?_
          refine j_iincN C (fun x7 => [(3, .int x7), (2, .int v6), (0, .ref h_), (1, .ref h_p1)]) d7_computeNullable_90 3 rfl (by decide +kernel) (by decide) (fun _ => rfl) (fun x7 => ?_)
          refine j_goto C d7_computeNullable_93 ?_
          exact j_sub [2, 3, 1, 0] rfl (hrc4 _)
        · refine j_icmp_eq C d7_computeNullable_81 ?_ ?_
          · refine j_const C d7_computeNullable_88 ?_
            exact j_sub [0, 1, 2] rfl (hk8 _)
          · refine j_const C d7_computeNullable_84 ?_
            refine j_goto C d7_computeNullable_85 ?_
            exact j_sub [0, 1, 2] rfl (hk8 _)
      · exact j_sub [2, 3, 5, 1, 0] rfl (j_loop (fun v10 => [(h_, .inr (7, [.int v10.2, g_first, g_follow, g_begins])), (h_p1, .inr (6, [.ref h_p1_codes, .int c_p1_count])), (h_p1_codes, .inl (tc.1, 24, .inl c_p1_codes))]) (fun v10 => [(0, .ref h_), (1, .ref h_p1), (3, .int v3.2.1), (4, .int v3.2.2), (5, .int v10.1)]) (fun rc11 hrc11 v10 => wX7_computeNullable_24 C N h_ h_p1 h_p1_codes g_first g_follow g_begins c_p1_codes c_p1_count v3 k9 hk9 rc11 hrc11 v10) N _)

set_option maxHeartbeats 4000000 in
set_option maxRecDepth 100000 in
theorem kX7_computeNullable (l : Launch) (D : va_G) (tc : jTC) (N : Nat) (h_ h_p1 h_p1_codes : Nat) (g_first g_follow g_begins : Value) (c_nullable : Int32) (c_p1_codes : (Nat → Int32)) (c_p1_count : Int32) : ctV l D tc yX7_computeNullable (Cond.code yX7_computeNullable cX7_computeNullable 6 none :: jtb) ({ frames := 3, cells := 0, slots := 0, locals := 65 } : Room) [.ref h_, .ref h_p1] [(h_, .inr (7, [.int c_nullable, g_first, g_follow, g_begins])), (h_p1, .inr (6, [.ref h_p1_codes, .int c_p1_count])), (h_p1_codes, .inl (tc.1, 24, .inl c_p1_codes))] (fX7_computeNullable N c_nullable c_p1_codes c_p1_count) (fun (u : Int32) => [(h_, .inr (7, [.int u, g_first, g_follow, g_begins])), (h_p1, .inr (6, [.ref h_p1_codes, .int c_p1_count])), (h_p1_codes, .inl (tc.1, 24, .inl c_p1_codes))]) := by
  refine ctV_of (lv0 := [(0, .ref h_), (1, .ref h_p1)]) (by decide +kernel) (Nat.le_of_ble_eq_true rfl) rfl (fun X C => ?_)
  unfold fX7_computeNullable
  refine j_const C d7_computeNullable_0 ?_
  refine j_istore C d7_computeNullable_1 (by decide) (lv' := [(2, .int 1), (0, .ref h_), (1, .ref h_p1)]) rfl ?_
  refine j_const C d7_computeNullable_2 ?_
  refine j_istore C d7_computeNullable_3 (by decide) (lv' := [(3, .int 0), (2, .int 1), (0, .ref h_), (1, .ref h_p1)]) rfl ?_
  refine j_join 96 (fun v1 => [(h_, .inr (7, [.int v1, g_first, g_follow, g_begins])), (h_p1, .inr (6, [.ref h_p1_codes, .int c_p1_count])), (h_p1_codes, .inl (tc.1, 24, .inl c_p1_codes))]) (fun v1 => []) (fun v1 => []) (fun v1 => ?_) (fun k2 hk2 => ?_)
  · exact j_vret C d7_computeNullable_96 rfl
  · exact j_sub [2, 3, 1, 0] rfl (j_loop (fun v3 => [(h_, .inr (7, [.int v3.2.2, g_first, g_follow, g_begins])), (h_p1, .inr (6, [.ref h_p1_codes, .int c_p1_count])), (h_p1_codes, .inl (tc.1, 24, .inl c_p1_codes))]) (fun v3 => [(0, .ref h_), (1, .ref h_p1), (2, .int v3.1), (3, .int v3.2.1)]) (fun rc4 hrc4 v3 => wX7_computeNullable_4 C N h_ h_p1 h_p1_codes g_first g_follow g_begins c_p1_codes c_p1_count k2 hk2 rc4 hrc4 v3) N _)

theorem d7_firstOf_0 : jdi cX7_firstOf 0 1 1 := Or.inl ⟨1, by decide +kernel⟩
theorem d7_firstOf_1 : jdk cX7_firstOf 1 10 3 := Or.inr (Or.inl ⟨10, by decide +kernel⟩)
theorem d7_firstOf_3 : jdb cX7_firstOf 3 (.if_icmp .lt 15) 15 18 6 := by decide +kernel
theorem d7_firstOf_6 : jda cX7_firstOf 6 0 7 := Or.inl ⟨0, by decide +kernel⟩
theorem d7_firstOf_7 : jd cX7_firstOf 7 (.getfield 9) 3 10 := by decide +kernel
theorem d7_firstOf_10 : jdi cX7_firstOf 10 1 11 := Or.inl ⟨1, by decide +kernel⟩
theorem d7_firstOf_11 : jdk cX7_firstOf 11 10 13 := Or.inr (Or.inl ⟨10, by decide +kernel⟩)
theorem d7_firstOf_13 : jd cX7_firstOf 13 (.isub) 1 14 := by decide +kernel
theorem d7_firstOf_14 : jd cX7_firstOf 14 (.iaload) 1 15 := by decide +kernel
theorem d7_firstOf_15 : jdb cX7_firstOf 15 (.goto 6) 6 21 18 := by decide +kernel
theorem d7_firstOf_18 : jdk cX7_firstOf 18 1 19 := Or.inl ⟨1, by decide +kernel⟩
theorem d7_firstOf_19 : jdi cX7_firstOf 19 1 20 := Or.inl ⟨1, by decide +kernel⟩
theorem d7_firstOf_20 : jd cX7_firstOf 20 (.ishl) 1 21 := by decide +kernel
theorem d7_firstOf_21 : decode cX7_firstOf 21 = .ok (.ireturn, 1) := by decide +kernel
set_option maxHeartbeats 4000000 in
set_option maxRecDepth 100000 in
theorem kX7_firstOf (l : Launch) (D : va_G) (tc : jTC) (h_ h_first : Nat) (g_nullable g_follow g_begins : Value) (c_first : (Nat → Int32)) (p1 : Int32) : ctI0 l D tc yX7_firstOf (Cond.code yX7_firstOf cX7_firstOf 2 (some .int) :: jtb) ({ frames := 0, cells := 0, slots := 0, locals := 0 } : Room) [.ref h_, .int p1] [(h_, .inr (7, [g_nullable, .ref h_first, g_follow, g_begins])), (h_first, .inl (tc.1, 8, .inl c_first))] (fX7_firstOf c_first p1) := by
  refine ctI0_of (lv0 := [(0, .ref h_), (1, .int p1)]) (by decide +kernel) (Nat.le_of_ble_eq_true rfl) rfl (fun X C => ?_)
  unfold fX7_firstOf
  refine j_iload C d7_firstOf_0 1 rfl ?_
  refine j_const C d7_firstOf_1 ?_
  refine j_join 21 (fun v1 => [(h_, .inr (7, [g_nullable, .ref h_first, g_follow, g_begins])), (h_first, .inl (tc.1, 8, .inl c_first))]) (fun v1 => []) (fun v1 => [.int v1]) (fun v1 => ?_) (fun k2 hk2 => ?_)
  · exact j_iret0 C d7_firstOf_21
  · refine j_icmp_lt C d7_firstOf_3 ?_ ?_
    · refine j_const C d7_firstOf_18 ?_
      refine j_iload C d7_firstOf_19 1 rfl ?_
      refine j_ishl C d7_firstOf_20 ?_
      exact j_sub [] rfl (hk2 _)
    · refine j_aload C d7_firstOf_6 0 rfl ?_
      refine j_get C d7_firstOf_7 fl7_9 0 rfl rfl ?_
      refine j_iload C d7_firstOf_10 1 rfl ?_
      refine j_const C d7_firstOf_11 ?_
      refine j_isub C d7_firstOf_13 ?_
      refine j_iald C d7_firstOf_14 1 rfl (fun x3 => ?_)
      refine j_goto C d7_firstOf_15 ?_
      exact j_sub [] rfl (hk2 _)

theorem d7_firstFrom_0 : jdk cX7_firstFrom 0 0 1 := Or.inl ⟨0, by decide +kernel⟩
theorem d7_firstFrom_1 : jds cX7_firstFrom 1 3 2 := Or.inl ⟨3, by decide +kernel⟩
theorem d7_firstFrom_2 : jdi cX7_firstFrom 2 2 3 := Or.inl ⟨2, by decide +kernel⟩
theorem d7_firstFrom_3 : jds cX7_firstFrom 3 4 5 := Or.inr (by decide +kernel)
theorem d7_firstFrom_5 : jdi cX7_firstFrom 5 4 7 := Or.inr (by decide +kernel)
theorem d7_firstFrom_7 : jdi cX7_firstFrom 7 1 8 := Or.inl ⟨1, by decide +kernel⟩
theorem d7_firstFrom_8 : jd cX7_firstFrom 8 (.invokestatic 68) 3 11 := by decide +kernel
theorem d7_firstFrom_11 : jdb cX7_firstFrom 11 (.if_icmp .ge 37) 37 48 14 := by decide +kernel
theorem d7_firstFrom_14 : jdi cX7_firstFrom 14 3 15 := Or.inl ⟨3, by decide +kernel⟩
theorem d7_firstFrom_15 : jda cX7_firstFrom 15 0 16 := Or.inl ⟨0, by decide +kernel⟩
theorem d7_firstFrom_16 : jdi cX7_firstFrom 16 1 17 := Or.inl ⟨1, by decide +kernel⟩
theorem d7_firstFrom_17 : jdi cX7_firstFrom 17 4 19 := Or.inr (by decide +kernel)
theorem d7_firstFrom_19 : jd cX7_firstFrom 19 (.invokestatic 71) 3 22 := by decide +kernel
theorem d7_firstFrom_22 : jd cX7_firstFrom 22 (.invokevirtual 77) 3 25 := by decide +kernel
theorem d7_firstFrom_25 : jd cX7_firstFrom 25 (.ior) 1 26 := by decide +kernel
theorem d7_firstFrom_26 : jds cX7_firstFrom 26 3 27 := Or.inl ⟨3, by decide +kernel⟩
theorem d7_firstFrom_27 : jda cX7_firstFrom 27 0 28 := Or.inl ⟨0, by decide +kernel⟩
theorem d7_firstFrom_28 : jdi cX7_firstFrom 28 1 29 := Or.inl ⟨1, by decide +kernel⟩
theorem d7_firstFrom_29 : jdi cX7_firstFrom 29 4 31 := Or.inr (by decide +kernel)
theorem d7_firstFrom_31 : jd cX7_firstFrom 31 (.invokestatic 71) 3 34 := by decide +kernel
theorem d7_firstFrom_34 : jd cX7_firstFrom 34 (.invokevirtual 74) 3 37 := by decide +kernel
theorem d7_firstFrom_37 : jdb cX7_firstFrom 37 (.ifCond .ne 5) 5 42 40 := by decide +kernel
theorem d7_firstFrom_40 : jdi cX7_firstFrom 40 3 41 := Or.inl ⟨3, by decide +kernel⟩
theorem d7_firstFrom_41 : decode cX7_firstFrom 41 = .ok (.ireturn, 1) := by decide +kernel
theorem d7_firstFrom_42 : jd cX7_firstFrom 42 (.iinc 4 1) 3 45 := by decide +kernel
theorem d7_firstFrom_45 : jdb cX7_firstFrom 45 (.goto (-40)) (-40) 5 48 := by decide +kernel
theorem d7_firstFrom_48 : jdi cX7_firstFrom 48 3 49 := Or.inl ⟨3, by decide +kernel⟩
theorem d7_firstFrom_49 : decode cX7_firstFrom 49 = .ok (.ireturn, 1) := by decide +kernel
set_option maxHeartbeats 4000000 in
set_option maxRecDepth 100000 in
theorem wX7_firstFrom_5 {X : jC} {tc : jTC} (C : jx X cX7_firstFrom 5 RX7 (some .int) tc ({ frames := 2, cells := 0, slots := 0, locals := 42 } : Room)) (h_ h_first : Nat) (g_follow g_begins : Value) (p1 : Int32) (c_nullable : Int32) (c_first : (Nat → Int32)) (k2 : (Int32 → Option (Int32))) (hk2 : ∀ w12 : Int32, jo X 5 (0, 0) (jQI0 X [(h_, .inr (7, [.int c_nullable, .ref h_first, g_follow, g_begins])), (h_first, .inl (tc.1, 8, .inl c_first))]) (k2 w12) [(h_, .inr (7, [.int c_nullable, .ref h_first, g_follow, g_begins])), (h_first, .inl (tc.1, 8, .inl c_first))] 48 [(3, .int w12)] []) (rc4 : Int32 × Int32 → Option (Int32)) (hrc4 : ∀ v3 : Int32 × Int32, jo X 5 (0, 0) (jQI0 X [(h_, .inr (7, [.int c_nullable, .ref h_first, g_follow, g_begins])), (h_first, .inl (tc.1, 8, .inl c_first))]) (rc4 v3) [(h_, .inr (7, [.int c_nullable, .ref h_first, g_follow, g_begins])), (h_first, .inl (tc.1, 8, .inl c_first))] 5 [(0, .ref h_), (1, .int p1), (3, .int v3.1), (4, .int v3.2)] []) (v3 : Int32 × Int32) : jo X 5 (0, 0) (jQI0 X [(h_, .inr (7, [.int c_nullable, .ref h_first, g_follow, g_begins])), (h_first, .inl (tc.1, 8, .inl c_first))]) (bX7_firstFrom_5 p1 c_nullable c_first k2 rc4 v3) [(h_, .inr (7, [.int c_nullable, .ref h_first, g_follow, g_begins])), (h_first, .inl (tc.1, 8, .inl c_first))] 5 [(0, .ref h_), (1, .int p1), (3, .int v3.1), (4, .int v3.2)] [] := by
  unfold bX7_firstFrom_5
  refine j_iload C d7_firstFrom_5 3 rfl ?_
  refine j_iload C d7_firstFrom_7 1 rfl ?_
  refine j_callSI0 (As := [.int p1]) C d7_firstFrom_8 ms7_68 (kX6_lengthOf _ _ tc p1) ⟨rfl, rfl, Nat.le_of_ble_eq_true rfl, Nat.le_of_ble_eq_true rfl⟩ rfl [] rfl rfl rfl (Nat.le_of_ble_eq_true rfl) (fun x5 => ?_)
  refine j_icmp_ge C d7_firstFrom_11 ?_ ?_
  · exact j_sub [2] rfl (hk2 _)
  · refine j_iload C d7_firstFrom_14 2 rfl ?_
    refine j_aload C d7_firstFrom_15 0 rfl ?_
    refine j_iload C d7_firstFrom_16 1 rfl ?_
    refine j_iload C d7_firstFrom_17 3 rfl ?_
    refine j_callSI0 (As := [.int p1, .int v3.2]) C d7_firstFrom_19 ms7_71 (kX6_symbolOf _ _ tc p1 v3.2) ⟨rfl, rfl, Nat.le_of_ble_eq_true rfl, Nat.le_of_ble_eq_true rfl⟩ rfl [] rfl rfl rfl (Nat.le_of_ble_eq_true rfl) (fun x6 => ?_)
    refine j_callVI0 (As := [.int x6]) C d7_firstFrom_22 mv7_77 (kX7_firstOf _ _ tc h_ h_first (.int c_nullable) g_follow g_begins c_first x6) ⟨rfl, rfl, Nat.le_of_ble_eq_true rfl, Nat.le_of_ble_eq_true rfl⟩ rfl 0 rfl [0, 1] rfl rfl rfl (Nat.le_of_ble_eq_true rfl) (fun x7 => ?_)
    refine j_ior C d7_firstFrom_25 ?_
    refine j_leti (fun x8 => ?_)
    refine j_istore C d7_firstFrom_26 (by decide) (lv' := [(3, .int x8), (0, .ref h_), (1, .int p1), (4, .int v3.2)]) rfl ?_
    refine j_aload C d7_firstFrom_27 1 rfl ?_
    refine j_iload C d7_firstFrom_28 2 rfl ?_
    refine j_iload C d7_firstFrom_29 3 rfl ?_
    refine j_callSI0 (As := [.int p1, .int v3.2]) C d7_firstFrom_31 ms7_71 (kX6_symbolOf _ _ tc p1 v3.2) ⟨rfl, rfl, Nat.le_of_ble_eq_true rfl, Nat.le_of_ble_eq_true rfl⟩ rfl [] rfl rfl rfl (Nat.le_of_ble_eq_true rfl) (fun x9 => ?_)
    refine j_callVI0 (As := [.int x9]) C d7_firstFrom_34 mv7_74 (kX7_isNullable _ _ tc h_ (.ref h_first) g_follow g_begins c_nullable x9) ⟨rfl, rfl, Nat.le_of_ble_eq_true rfl, Nat.le_of_ble_eq_true rfl⟩ rfl 0 rfl [0] rfl rfl rfl (Nat.le_of_ble_eq_true rfl) (fun x10 => ?_)
    refine j_if_ne C d7_firstFrom_37 ?_ ?_
    · refine j_iincN C (fun x11 => [(4, .int x11), (3, .int x8), (0, .ref h_), (1, .int p1)]) d7_firstFrom_42 3 rfl (by decide +kernel) (by decide) (fun _ => rfl) (fun x11 => ?_)
      refine j_goto C d7_firstFrom_45 ?_
      exact j_sub [2, 3, 1, 0] rfl (hrc4 _)
    · refine j_iload C d7_firstFrom_40 0 rfl ?_
      exact j_iret0 C d7_firstFrom_41

set_option maxHeartbeats 4000000 in
set_option maxRecDepth 100000 in
theorem kX7_firstFrom (l : Launch) (D : va_G) (tc : jTC) (N : Nat) (h_ h_first : Nat) (g_follow g_begins : Value) (c_nullable : Int32) (c_first : (Nat → Int32)) (p1 : Int32) (p2 : Int32) : ctI0 l D tc yX7_firstFrom (Cond.code yX7_firstFrom cX7_firstFrom 5 (some .int) :: jtb) ({ frames := 2, cells := 0, slots := 0, locals := 42 } : Room) [.ref h_, .int p1, .int p2] [(h_, .inr (7, [.int c_nullable, .ref h_first, g_follow, g_begins])), (h_first, .inl (tc.1, 8, .inl c_first))] (fX7_firstFrom N c_nullable c_first p1 p2) := by
  refine ctI0_of (lv0 := [(0, .ref h_), (1, .int p1), (2, .int p2)]) (by decide +kernel) (Nat.le_of_ble_eq_true rfl) rfl (fun X C => ?_)
  unfold fX7_firstFrom
  refine j_const C d7_firstFrom_0 ?_
  refine j_istore C d7_firstFrom_1 (by decide) (lv' := [(3, .int 0), (0, .ref h_), (1, .int p1), (2, .int p2)]) rfl ?_
  refine j_iload C d7_firstFrom_2 3 rfl ?_
  refine j_istore C d7_firstFrom_3 (by decide) (lv' := [(4, .int p2), (3, .int 0), (0, .ref h_), (1, .int p1), (2, .int p2)]) rfl ?_
  refine j_join 48 (fun v1 => [(h_, .inr (7, [.int c_nullable, .ref h_first, g_follow, g_begins])), (h_first, .inl (tc.1, 8, .inl c_first))]) (fun v1 => [(3, .int v1)]) (fun v1 => []) (fun v1 => ?_) (fun k2 hk2 => ?_)
  · refine j_iload C d7_firstFrom_48 0 rfl ?_
    exact j_iret0 C d7_firstFrom_49
  · exact j_sub [2, 3, 1, 0] rfl (j_loop (fun v3 => [(h_, .inr (7, [.int c_nullable, .ref h_first, g_follow, g_begins])), (h_first, .inl (tc.1, 8, .inl c_first))]) (fun v3 => [(0, .ref h_), (1, .int p1), (3, .int v3.1), (4, .int v3.2)]) (fun rc4 hrc4 v3 => wX7_firstFrom_5 C h_ h_first g_follow g_begins p1 c_nullable c_first k2 hk2 rc4 hrc4 v3) N _)

theorem d7_computeFirst_0 : jdk cX7_computeFirst 0 1 1 := Or.inl ⟨1, by decide +kernel⟩
theorem d7_computeFirst_1 : jds cX7_computeFirst 1 2 2 := Or.inl ⟨2, by decide +kernel⟩
theorem d7_computeFirst_2 : jdk cX7_computeFirst 2 0 3 := Or.inl ⟨0, by decide +kernel⟩
theorem d7_computeFirst_3 : jds cX7_computeFirst 3 3 4 := Or.inl ⟨3, by decide +kernel⟩
theorem d7_computeFirst_4 : jdi cX7_computeFirst 4 3 5 := Or.inl ⟨3, by decide +kernel⟩
theorem d7_computeFirst_5 : jdk cX7_computeFirst 5 1000 8 := Or.inr (Or.inr ⟨1000, by decide +kernel⟩)
theorem d7_computeFirst_8 : jdb cX7_computeFirst 8 (.if_icmp .ge 98) 98 106 11 := by decide +kernel
theorem d7_computeFirst_11 : jdi cX7_computeFirst 11 2 12 := Or.inl ⟨2, by decide +kernel⟩
theorem d7_computeFirst_12 : jdb cX7_computeFirst 12 (.ifCond .eq 94) 94 106 15 := by decide +kernel
theorem d7_computeFirst_15 : jdk cX7_computeFirst 15 0 16 := Or.inl ⟨0, by decide +kernel⟩
theorem d7_computeFirst_16 : jds cX7_computeFirst 16 2 17 := Or.inl ⟨2, by decide +kernel⟩
theorem d7_computeFirst_17 : jdk cX7_computeFirst 17 0 18 := Or.inl ⟨0, by decide +kernel⟩
theorem d7_computeFirst_18 : jds cX7_computeFirst 18 4 20 := Or.inr (by decide +kernel)
theorem d7_computeFirst_20 : jdi cX7_computeFirst 20 4 22 := Or.inr (by decide +kernel)
theorem d7_computeFirst_22 : jda cX7_computeFirst 22 1 23 := Or.inl ⟨1, by decide +kernel⟩
theorem d7_computeFirst_23 : jd cX7_computeFirst 23 (.getfield 45) 3 26 := by decide +kernel
theorem d7_computeFirst_26 : jdb cX7_computeFirst 26 (.if_icmp .ge 74) 74 100 29 := by decide +kernel
theorem d7_computeFirst_29 : jda cX7_computeFirst 29 1 30 := Or.inl ⟨1, by decide +kernel⟩
theorem d7_computeFirst_30 : jd cX7_computeFirst 30 (.getfield 50) 3 33 := by decide +kernel
theorem d7_computeFirst_33 : jdi cX7_computeFirst 33 4 35 := Or.inr (by decide +kernel)
theorem d7_computeFirst_35 : jd cX7_computeFirst 35 (.iaload) 1 36 := by decide +kernel
theorem d7_computeFirst_36 : jd cX7_computeFirst 36 (.invokestatic 57) 3 39 := by decide +kernel
theorem d7_computeFirst_39 : jds cX7_computeFirst 39 5 41 := Or.inr (by decide +kernel)
theorem d7_computeFirst_41 : jda cX7_computeFirst 41 0 42 := Or.inl ⟨0, by decide +kernel⟩
theorem d7_computeFirst_42 : jd cX7_computeFirst 42 (.getfield 9) 3 45 := by decide +kernel
theorem d7_computeFirst_45 : jdi cX7_computeFirst 45 5 47 := Or.inr (by decide +kernel)
theorem d7_computeFirst_47 : jd cX7_computeFirst 47 (.iaload) 1 48 := by decide +kernel
theorem d7_computeFirst_48 : jds cX7_computeFirst 48 6 50 := Or.inr (by decide +kernel)
theorem d7_computeFirst_50 : jda cX7_computeFirst 50 0 51 := Or.inl ⟨0, by decide +kernel⟩
theorem d7_computeFirst_51 : jd cX7_computeFirst 51 (.getfield 9) 3 54 := by decide +kernel
theorem d7_computeFirst_54 : jdi cX7_computeFirst 54 5 56 := Or.inr (by decide +kernel)
theorem d7_computeFirst_56 : jd cX7_computeFirst 56 (.dup2) 1 57 := by decide +kernel
theorem d7_computeFirst_57 : jd cX7_computeFirst 57 (.iaload) 1 58 := by decide +kernel
theorem d7_computeFirst_58 : jda cX7_computeFirst 58 0 59 := Or.inl ⟨0, by decide +kernel⟩
theorem d7_computeFirst_59 : jda cX7_computeFirst 59 1 60 := Or.inl ⟨1, by decide +kernel⟩
theorem d7_computeFirst_60 : jd cX7_computeFirst 60 (.getfield 50) 3 63 := by decide +kernel
theorem d7_computeFirst_63 : jdi cX7_computeFirst 63 4 65 := Or.inr (by decide +kernel)
theorem d7_computeFirst_65 : jd cX7_computeFirst 65 (.iaload) 1 66 := by decide +kernel
theorem d7_computeFirst_66 : jdk cX7_computeFirst 66 0 67 := Or.inl ⟨0, by decide +kernel⟩
theorem d7_computeFirst_67 : jd cX7_computeFirst 67 (.invokevirtual 61) 3 70 := by decide +kernel
theorem d7_computeFirst_70 : jd cX7_computeFirst 70 (.ior) 1 71 := by decide +kernel
theorem d7_computeFirst_71 : jd cX7_computeFirst 71 (.iastore) 1 72 := by decide +kernel
theorem d7_computeFirst_72 : jdi cX7_computeFirst 72 2 73 := Or.inl ⟨2, by decide +kernel⟩
theorem d7_computeFirst_73 : jdb cX7_computeFirst 73 (.ifCond .ne 15) 15 88 76 := by decide +kernel
theorem d7_computeFirst_76 : jda cX7_computeFirst 76 0 77 := Or.inl ⟨0, by decide +kernel⟩
theorem d7_computeFirst_77 : jd cX7_computeFirst 77 (.getfield 9) 3 80 := by decide +kernel
theorem d7_computeFirst_80 : jdi cX7_computeFirst 80 5 82 := Or.inr (by decide +kernel)
theorem d7_computeFirst_82 : jd cX7_computeFirst 82 (.iaload) 1 83 := by decide +kernel
theorem d7_computeFirst_83 : jdi cX7_computeFirst 83 6 85 := Or.inr (by decide +kernel)
theorem d7_computeFirst_85 : jdb cX7_computeFirst 85 (.if_icmp .eq 7) 7 92 88 := by decide +kernel
theorem d7_computeFirst_88 : jdk cX7_computeFirst 88 1 89 := Or.inl ⟨1, by decide +kernel⟩
theorem d7_computeFirst_89 : jdb cX7_computeFirst 89 (.goto 4) 4 93 92 := by decide +kernel
theorem d7_computeFirst_92 : jdk cX7_computeFirst 92 0 93 := Or.inl ⟨0, by decide +kernel⟩
theorem d7_computeFirst_93 : jds cX7_computeFirst 93 2 94 := Or.inl ⟨2, by decide +kernel⟩
theorem d7_computeFirst_94 : jd cX7_computeFirst 94 (.iinc 4 1) 3 97 := by decide +kernel
theorem d7_computeFirst_97 : jdb cX7_computeFirst 97 (.goto (-77)) (-77) 20 100 := by decide +kernel
theorem d7_computeFirst_100 : jd cX7_computeFirst 100 (.iinc 3 1) 3 103 := by decide +kernel
theorem d7_computeFirst_103 : jdb cX7_computeFirst 103 (.goto (-99)) (-99) 4 106 := by decide +kernel
theorem d7_computeFirst_106 : decode cX7_computeFirst 106 = .ok (.return_, 1) := by decide +kernel
set_option maxHeartbeats 4000000 in
set_option maxRecDepth 100000 in
theorem wX7_computeFirst_20 {X : jC} {tc : jTC} (C : jx X cX7_computeFirst 7 RX7 none tc ({ frames := 3, cells := 0, slots := 0, locals := 66 } : Room)) (N : Nat) (h_ h_first h_p1 h_p1_codes : Nat) (g_follow g_begins : Value) (c_nullable : Int32) (c_p1_codes : (Nat → Int32)) (c_p1_count : Int32) (v3 : Int32 × Int32 × (Nat → Int32)) (k7 : (Int32 × (Nat → Int32) → Option ((Nat → Int32)))) (hk7 : ∀ w23 : Int32 × (Nat → Int32), jo X 7 (0, 0) (jQV X (fun (u : (Nat → Int32)) => [(h_, .inr (7, [.int c_nullable, .ref h_first, g_follow, g_begins])), (h_first, .inl (tc.1, 8, .inl u)), (h_p1, .inr (6, [.ref h_p1_codes, .int c_p1_count])), (h_p1_codes, .inl (tc.1, 24, .inl c_p1_codes))])) (k7 w23) [(h_, .inr (7, [.int c_nullable, .ref h_first, g_follow, g_begins])), (h_first, .inl (tc.1, 8, .inl w23.2)), (h_p1, .inr (6, [.ref h_p1_codes, .int c_p1_count])), (h_p1_codes, .inl (tc.1, 24, .inl c_p1_codes))] 100 [(0, .ref h_), (1, .ref h_p1), (2, .int w23.1), (3, .int v3.2.1)] []) (rc9 : Int32 × Int32 × (Nat → Int32) → Option ((Nat → Int32))) (hrc9 : ∀ v8 : Int32 × Int32 × (Nat → Int32), jo X 7 (0, 0) (jQV X (fun (u : (Nat → Int32)) => [(h_, .inr (7, [.int c_nullable, .ref h_first, g_follow, g_begins])), (h_first, .inl (tc.1, 8, .inl u)), (h_p1, .inr (6, [.ref h_p1_codes, .int c_p1_count])), (h_p1_codes, .inl (tc.1, 24, .inl c_p1_codes))])) (rc9 v8) [(h_, .inr (7, [.int c_nullable, .ref h_first, g_follow, g_begins])), (h_first, .inl (tc.1, 8, .inl v8.2.2)), (h_p1, .inr (6, [.ref h_p1_codes, .int c_p1_count])), (h_p1_codes, .inl (tc.1, 24, .inl c_p1_codes))] 20 [(0, .ref h_), (1, .ref h_p1), (2, .int v8.1), (3, .int v3.2.1), (4, .int v8.2.1)] []) (v8 : Int32 × Int32 × (Nat → Int32)) : jo X 7 (0, 0) (jQV X (fun (u : (Nat → Int32)) => [(h_, .inr (7, [.int c_nullable, .ref h_first, g_follow, g_begins])), (h_first, .inl (tc.1, 8, .inl u)), (h_p1, .inr (6, [.ref h_p1_codes, .int c_p1_count])), (h_p1_codes, .inl (tc.1, 24, .inl c_p1_codes))])) (bX7_computeFirst_20 N c_nullable c_p1_codes c_p1_count k7 rc9 v8) [(h_, .inr (7, [.int c_nullable, .ref h_first, g_follow, g_begins])), (h_first, .inl (tc.1, 8, .inl v8.2.2)), (h_p1, .inr (6, [.ref h_p1_codes, .int c_p1_count])), (h_p1_codes, .inl (tc.1, 24, .inl c_p1_codes))] 20 [(0, .ref h_), (1, .ref h_p1), (2, .int v8.1), (3, .int v3.2.1), (4, .int v8.2.1)] [] := by
  unfold bX7_computeFirst_20
  refine j_iload C d7_computeFirst_20 4 rfl ?_
  refine j_aload C d7_computeFirst_22 1 rfl ?_
  refine j_get C d7_computeFirst_23 fl7_45 2 rfl rfl ?_
  refine j_icmp_ge C d7_computeFirst_26 ?_ ?_
  · exact j_sub [0, 1, 2, 3] rfl (hk7 _)
  · refine j_aload C d7_computeFirst_29 1 rfl ?_
    refine j_get C d7_computeFirst_30 fl7_50 2 rfl rfl ?_
    refine j_iload C d7_computeFirst_33 4 rfl ?_
    refine j_iald C d7_computeFirst_35 3 rfl (fun x10 => ?_)
    refine j_callSI0 (As := [.int x10]) C d7_computeFirst_36 ms7_57 (kX6_leftOf _ _ tc x10) ⟨rfl, rfl, Nat.le_of_ble_eq_true rfl, Nat.le_of_ble_eq_true rfl⟩ rfl [] rfl rfl rfl (Nat.le_of_ble_eq_true rfl) (fun x11 => ?_)
    refine j_istore C d7_computeFirst_39 (by decide) (lv' := [(5, .int x11), (0, .ref h_), (1, .ref h_p1), (2, .int v8.1), (3, .int v3.2.1), (4, .int v8.2.1)]) rfl ?_
    refine j_aload C d7_computeFirst_41 1 rfl ?_
    refine j_get C d7_computeFirst_42 fl7_9 0 rfl rfl ?_
    refine j_iload C d7_computeFirst_45 0 rfl ?_
    refine j_iald C d7_computeFirst_47 1 rfl (fun x12 => ?_)
    refine j_istore C d7_computeFirst_48 (by decide) (lv' := [(6, .int x12), (5, .int x11), (0, .ref h_), (1, .ref h_p1), (2, .int v8.1), (3, .int v3.2.1), (4, .int v8.2.1)]) rfl ?_
    refine j_aload C d7_computeFirst_50 2 rfl ?_
    refine j_get C d7_computeFirst_51 fl7_9 0 rfl rfl ?_
    refine j_iload C d7_computeFirst_54 1 rfl ?_
    refine j_dup2 C d7_computeFirst_56 rfl rfl ?_
    refine j_iald C d7_computeFirst_57 1 rfl (fun x13 => ?_)
    refine j_aload C d7_computeFirst_58 2 rfl ?_
    refine j_aload C d7_computeFirst_59 3 rfl ?_
    refine j_get C d7_computeFirst_60 fl7_50 2 rfl rfl ?_
    refine j_iload C d7_computeFirst_63 6 rfl ?_
    refine j_iald C d7_computeFirst_65 3 rfl (fun x14 => ?_)
    refine j_const C d7_computeFirst_66 ?_
    refine j_callVI0 (As := [.int x14, .int 0]) C d7_computeFirst_67 mv7_61 (kX7_firstFrom _ _ tc N h_ h_first g_follow g_begins c_nullable v8.2.2 x14 0) ⟨rfl, rfl, Nat.le_of_ble_eq_true rfl, Nat.le_of_ble_eq_true rfl⟩ rfl 0 rfl [0, 1] rfl rfl rfl (Nat.le_of_ble_eq_true rfl) (fun x15 => ?_)
    refine j_ior C d7_computeFirst_70 ?_
    refine j_iast C (fun f16 => [(h_, .inr (7, [.int c_nullable, .ref h_first, g_follow, g_begins])), (h_first, .inl (tc.1, 8, .inl f16)), (h_p1, .inr (6, [.ref h_p1_codes, .int c_p1_count])), (h_p1_codes, .inl (tc.1, 24, .inl c_p1_codes))]) d7_computeFirst_71 1 rfl (fun _ => rfl) (fun f16 => ?_)
    refine j_iload C d7_computeFirst_72 4 rfl ?_
    refine j_join 93 (fun v17 => [(h_, .inr (7, [.int c_nullable, .ref h_first, g_follow, g_begins])), (h_first, .inl (tc.1, 8, .inl f16)), (h_p1, .inr (6, [.ref h_p1_codes, .int c_p1_count])), (h_p1_codes, .inl (tc.1, 24, .inl c_p1_codes))]) (fun v17 => [(0, .ref h_), (1, .ref h_p1), (3, .int v3.2.1), (4, .int v8.2.1)]) (fun v17 => [.int v17]) (fun v17 => ?_) (fun k19 hk19 => ?_)
    · refine j_istore C d7_computeFirst_93 (by decide) (lv' := [(2, .int v17), (0, .ref h_), (1, .ref h_p1), (3, .int v3.2.1), (4, .int v8.2.1)]) rfl ?_
      refine j_iincN C (fun x18 => [(4, .int x18), (2, .int v17), (0, .ref h_), (1, .ref h_p1), (3, .int v3.2.1)]) d7_computeFirst_94 4 rfl (by decide +kernel) (by decide) (fun _ => rfl) (fun x18 => ?_)
      refine j_goto C d7_computeFirst_97 ?_
      exact j_sub [2, 3, 1, 4, 0] rfl (hrc9 _)
    · refine j_join 88 (fun v20 => [(h_, .inr (7, [.int c_nullable, .ref h_first, g_follow, g_begins])), (h_first, .inl (tc.1, 8, .inl f16)), (h_p1, .inr (6, [.ref h_p1_codes, .int c_p1_count])), (h_p1_codes, .inl (tc.1, 24, .inl c_p1_codes))]) (fun v20 => [(0, .ref h_), (1, .ref h_p1), (3, .int v3.2.1), (4, .int v8.2.1)]) (fun v20 => []) (fun v20 => ?_) (fun k21 hk21 => ?_)
      · refine j_const C d7_computeFirst_88 ?_
        refine j_goto C d7_computeFirst_89 ?_
        exact hk19 _
      · refine j_if_ne C d7_computeFirst_73 ?_ ?_
        · exact j_sub [2, 3, 5, 6] rfl (hk21 _)
        · refine j_aload C d7_computeFirst_76 2 rfl ?_
          refine j_get C d7_computeFirst_77 fl7_9 0 rfl rfl ?_
          refine j_iload C d7_computeFirst_80 1 rfl ?_
          refine j_iald C d7_computeFirst_82 1 rfl (fun x22 => ?_)
          refine j_iload C d7_computeFirst_83 0 rfl ?_
          refine j_icmp_eq C d7_computeFirst_85 ?_ ?_
          · refine j_const C d7_computeFirst_92 ?_
            exact j_sub [2, 3, 5, 6] rfl (hk19 _)
          · exact j_sub [2, 3, 5, 6] rfl (hk21 _)

set_option maxHeartbeats 4000000 in
set_option maxRecDepth 100000 in
theorem wX7_computeFirst_4 {X : jC} {tc : jTC} (C : jx X cX7_computeFirst 7 RX7 none tc ({ frames := 3, cells := 0, slots := 0, locals := 66 } : Room)) (N : Nat) (h_ h_first h_p1 h_p1_codes : Nat) (g_follow g_begins : Value) (c_nullable : Int32) (c_p1_codes : (Nat → Int32)) (c_p1_count : Int32) (k2 : ((Nat → Int32) → Option ((Nat → Int32)))) (hk2 : ∀ w24 : (Nat → Int32), jo X 7 (0, 0) (jQV X (fun (u : (Nat → Int32)) => [(h_, .inr (7, [.int c_nullable, .ref h_first, g_follow, g_begins])), (h_first, .inl (tc.1, 8, .inl u)), (h_p1, .inr (6, [.ref h_p1_codes, .int c_p1_count])), (h_p1_codes, .inl (tc.1, 24, .inl c_p1_codes))])) (k2 w24) [(h_, .inr (7, [.int c_nullable, .ref h_first, g_follow, g_begins])), (h_first, .inl (tc.1, 8, .inl w24)), (h_p1, .inr (6, [.ref h_p1_codes, .int c_p1_count])), (h_p1_codes, .inl (tc.1, 24, .inl c_p1_codes))] 106 [] []) (rc4 : Int32 × Int32 × (Nat → Int32) → Option ((Nat → Int32))) (hrc4 : ∀ v3 : Int32 × Int32 × (Nat → Int32), jo X 7 (0, 0) (jQV X (fun (u : (Nat → Int32)) => [(h_, .inr (7, [.int c_nullable, .ref h_first, g_follow, g_begins])), (h_first, .inl (tc.1, 8, .inl u)), (h_p1, .inr (6, [.ref h_p1_codes, .int c_p1_count])), (h_p1_codes, .inl (tc.1, 24, .inl c_p1_codes))])) (rc4 v3) [(h_, .inr (7, [.int c_nullable, .ref h_first, g_follow, g_begins])), (h_first, .inl (tc.1, 8, .inl v3.2.2)), (h_p1, .inr (6, [.ref h_p1_codes, .int c_p1_count])), (h_p1_codes, .inl (tc.1, 24, .inl c_p1_codes))] 4 [(0, .ref h_), (1, .ref h_p1), (2, .int v3.1), (3, .int v3.2.1)] []) (v3 : Int32 × Int32 × (Nat → Int32)) : jo X 7 (0, 0) (jQV X (fun (u : (Nat → Int32)) => [(h_, .inr (7, [.int c_nullable, .ref h_first, g_follow, g_begins])), (h_first, .inl (tc.1, 8, .inl u)), (h_p1, .inr (6, [.ref h_p1_codes, .int c_p1_count])), (h_p1_codes, .inl (tc.1, 24, .inl c_p1_codes))])) (bX7_computeFirst_4 N c_nullable c_p1_codes c_p1_count k2 rc4 v3) [(h_, .inr (7, [.int c_nullable, .ref h_first, g_follow, g_begins])), (h_first, .inl (tc.1, 8, .inl v3.2.2)), (h_p1, .inr (6, [.ref h_p1_codes, .int c_p1_count])), (h_p1_codes, .inl (tc.1, 24, .inl c_p1_codes))] 4 [(0, .ref h_), (1, .ref h_p1), (2, .int v3.1), (3, .int v3.2.1)] [] := by
  unfold bX7_computeFirst_4
  refine j_iload C d7_computeFirst_4 3 rfl ?_
  refine j_const C d7_computeFirst_5 ?_
  refine j_icmp_ge C d7_computeFirst_8 ?_ ?_
  · exact j_sub [] rfl (hk2 _)
  · refine j_iload C d7_computeFirst_11 2 rfl ?_
    refine j_if_eq C d7_computeFirst_12 ?_ ?_
    · exact j_sub [] rfl (hk2 _)
    · refine j_const C d7_computeFirst_15 ?_
      refine j_istore C d7_computeFirst_16 (by decide) (lv' := [(2, .int 0), (0, .ref h_), (1, .ref h_p1), (3, .int v3.2.1)]) rfl ?_
      refine j_const C d7_computeFirst_17 ?_
      refine j_istore C d7_computeFirst_18 (by decide) (lv' := [(4, .int 0), (2, .int 0), (0, .ref h_), (1, .ref h_p1), (3, .int v3.2.1)]) rfl ?_
      refine j_join 100 (fun v5 => [(h_, .inr (7, [.int c_nullable, .ref h_first, g_follow, g_begins])), (h_first, .inl (tc.1, 8, .inl v5.2)), (h_p1, .inr (6, [.ref h_p1_codes, .int c_p1_count])), (h_p1_codes, .inl (tc.1, 24, .inl c_p1_codes))]) (fun v5 => [(0, .ref h_), (1, .ref h_p1), (2, .int v5.1), (3, .int v3.2.1)]) (fun v5 => []) (fun v5 => ?_) (fun k7 hk7 => ?_)
      · refine j_iincN C (fun x6 => [(3, .int x6), (0, .ref h_), (1, .ref h_p1), (2, .int v5.1)]) d7_computeFirst_100 3 rfl (by decide +kernel) (by decide) (fun _ => rfl) (fun x6 => ?_)
        refine j_goto C d7_computeFirst_103 ?_
        exact j_sub [1, 2, 3, 0] rfl (hrc4 _)
      · exact j_sub [2, 3, 1, 4, 0] rfl (j_loop (fun v8 => [(h_, .inr (7, [.int c_nullable, .ref h_first, g_follow, g_begins])), (h_first, .inl (tc.1, 8, .inl v8.2.2)), (h_p1, .inr (6, [.ref h_p1_codes, .int c_p1_count])), (h_p1_codes, .inl (tc.1, 24, .inl c_p1_codes))]) (fun v8 => [(0, .ref h_), (1, .ref h_p1), (2, .int v8.1), (3, .int v3.2.1), (4, .int v8.2.1)]) (fun rc9 hrc9 v8 => wX7_computeFirst_20 C N h_ h_first h_p1 h_p1_codes g_follow g_begins c_nullable c_p1_codes c_p1_count v3 k7 hk7 rc9 hrc9 v8) N _)

set_option maxHeartbeats 4000000 in
set_option maxRecDepth 100000 in
theorem kX7_computeFirst (l : Launch) (D : va_G) (tc : jTC) (N : Nat) (h_ h_first h_p1 h_p1_codes : Nat) (g_follow g_begins : Value) (c_nullable : Int32) (c_first : (Nat → Int32)) (c_p1_codes : (Nat → Int32)) (c_p1_count : Int32) : ctV l D tc yX7_computeFirst (Cond.code yX7_computeFirst cX7_computeFirst 7 none :: jtb) ({ frames := 3, cells := 0, slots := 0, locals := 66 } : Room) [.ref h_, .ref h_p1] [(h_, .inr (7, [.int c_nullable, .ref h_first, g_follow, g_begins])), (h_first, .inl (tc.1, 8, .inl c_first)), (h_p1, .inr (6, [.ref h_p1_codes, .int c_p1_count])), (h_p1_codes, .inl (tc.1, 24, .inl c_p1_codes))] (fX7_computeFirst N c_nullable c_first c_p1_codes c_p1_count) (fun (u : (Nat → Int32)) => [(h_, .inr (7, [.int c_nullable, .ref h_first, g_follow, g_begins])), (h_first, .inl (tc.1, 8, .inl u)), (h_p1, .inr (6, [.ref h_p1_codes, .int c_p1_count])), (h_p1_codes, .inl (tc.1, 24, .inl c_p1_codes))]) := by
  refine ctV_of (lv0 := [(0, .ref h_), (1, .ref h_p1)]) (by decide +kernel) (Nat.le_of_ble_eq_true rfl) rfl (fun X C => ?_)
  unfold fX7_computeFirst
  refine j_const C d7_computeFirst_0 ?_
  refine j_istore C d7_computeFirst_1 (by decide) (lv' := [(2, .int 1), (0, .ref h_), (1, .ref h_p1)]) rfl ?_
  refine j_const C d7_computeFirst_2 ?_
  refine j_istore C d7_computeFirst_3 (by decide) (lv' := [(3, .int 0), (2, .int 1), (0, .ref h_), (1, .ref h_p1)]) rfl ?_
  refine j_join 106 (fun v1 => [(h_, .inr (7, [.int c_nullable, .ref h_first, g_follow, g_begins])), (h_first, .inl (tc.1, 8, .inl v1)), (h_p1, .inr (6, [.ref h_p1_codes, .int c_p1_count])), (h_p1_codes, .inl (tc.1, 24, .inl c_p1_codes))]) (fun v1 => []) (fun v1 => []) (fun v1 => ?_) (fun k2 hk2 => ?_)
  · exact j_vret C d7_computeFirst_106 rfl
  · exact j_sub [2, 3, 1, 0] rfl (j_loop (fun v3 => [(h_, .inr (7, [.int c_nullable, .ref h_first, g_follow, g_begins])), (h_first, .inl (tc.1, 8, .inl v3.2.2)), (h_p1, .inr (6, [.ref h_p1_codes, .int c_p1_count])), (h_p1_codes, .inl (tc.1, 24, .inl c_p1_codes))]) (fun v3 => [(0, .ref h_), (1, .ref h_p1), (2, .int v3.1), (3, .int v3.2.1)]) (fun rc4 hrc4 v3 => wX7_computeFirst_4 C N h_ h_first h_p1 h_p1_codes g_follow g_begins c_nullable c_p1_codes c_p1_count k2 hk2 rc4 hrc4 v3) N _)

theorem d7_spreadFollow_0 : jdk cX7_spreadFollow 0 0 1 := Or.inl ⟨0, by decide +kernel⟩
theorem d7_spreadFollow_1 : jds cX7_spreadFollow 1 2 2 := Or.inl ⟨2, by decide +kernel⟩
theorem d7_spreadFollow_2 : jda cX7_spreadFollow 2 0 3 := Or.inl ⟨0, by decide +kernel⟩
theorem d7_spreadFollow_3 : jd cX7_spreadFollow 3 (.getfield 15) 3 6 := by decide +kernel
theorem d7_spreadFollow_6 : jdi cX7_spreadFollow 6 1 7 := Or.inl ⟨1, by decide +kernel⟩
theorem d7_spreadFollow_7 : jd cX7_spreadFollow 7 (.invokestatic 57) 3 10 := by decide +kernel
theorem d7_spreadFollow_10 : jd cX7_spreadFollow 10 (.iaload) 1 11 := by decide +kernel
theorem d7_spreadFollow_11 : jds cX7_spreadFollow 11 3 12 := Or.inl ⟨3, by decide +kernel⟩
theorem d7_spreadFollow_12 : jdi cX7_spreadFollow 12 1 13 := Or.inl ⟨1, by decide +kernel⟩
theorem d7_spreadFollow_13 : jd cX7_spreadFollow 13 (.invokestatic 68) 3 16 := by decide +kernel
theorem d7_spreadFollow_16 : jdk cX7_spreadFollow 16 1 17 := Or.inl ⟨1, by decide +kernel⟩
theorem d7_spreadFollow_17 : jd cX7_spreadFollow 17 (.isub) 1 18 := by decide +kernel
theorem d7_spreadFollow_18 : jds cX7_spreadFollow 18 4 20 := Or.inr (by decide +kernel)
theorem d7_spreadFollow_20 : jdi cX7_spreadFollow 20 4 22 := Or.inr (by decide +kernel)
theorem d7_spreadFollow_22 : jdb cX7_spreadFollow 22 (.ifCond .lt 93) 93 115 25 := by decide +kernel
theorem d7_spreadFollow_25 : jdi cX7_spreadFollow 25 1 26 := Or.inl ⟨1, by decide +kernel⟩
theorem d7_spreadFollow_26 : jdi cX7_spreadFollow 26 4 28 := Or.inr (by decide +kernel)
theorem d7_spreadFollow_28 : jd cX7_spreadFollow 28 (.invokestatic 71) 3 31 := by decide +kernel
theorem d7_spreadFollow_31 : jds cX7_spreadFollow 31 5 33 := Or.inr (by decide +kernel)
theorem d7_spreadFollow_33 : jdi cX7_spreadFollow 33 5 35 := Or.inr (by decide +kernel)
theorem d7_spreadFollow_35 : jdk cX7_spreadFollow 35 10 37 := Or.inr (Or.inl ⟨10, by decide +kernel⟩)
theorem d7_spreadFollow_37 : jdb cX7_spreadFollow 37 (.if_icmp .lt 45) 45 82 40 := by decide +kernel
theorem d7_spreadFollow_40 : jdi cX7_spreadFollow 40 5 42 := Or.inr (by decide +kernel)
theorem d7_spreadFollow_42 : jdk cX7_spreadFollow 42 10 44 := Or.inr (Or.inl ⟨10, by decide +kernel⟩)
theorem d7_spreadFollow_44 : jd cX7_spreadFollow 44 (.isub) 1 45 := by decide +kernel
theorem d7_spreadFollow_45 : jds cX7_spreadFollow 45 6 47 := Or.inr (by decide +kernel)
theorem d7_spreadFollow_47 : jdi cX7_spreadFollow 47 2 48 := Or.inl ⟨2, by decide +kernel⟩
theorem d7_spreadFollow_48 : jdb cX7_spreadFollow 48 (.ifCond .ne 17) 17 65 51 := by decide +kernel
theorem d7_spreadFollow_51 : jdi cX7_spreadFollow 51 3 52 := Or.inl ⟨3, by decide +kernel⟩
theorem d7_spreadFollow_52 : jda cX7_spreadFollow 52 0 53 := Or.inl ⟨0, by decide +kernel⟩
theorem d7_spreadFollow_53 : jd cX7_spreadFollow 53 (.getfield 15) 3 56 := by decide +kernel
theorem d7_spreadFollow_56 : jdi cX7_spreadFollow 56 6 58 := Or.inr (by decide +kernel)
theorem d7_spreadFollow_58 : jd cX7_spreadFollow 58 (.iaload) 1 59 := by decide +kernel
theorem d7_spreadFollow_59 : jdk cX7_spreadFollow 59 (-1) 60 := Or.inl ⟨(-1), by decide +kernel⟩
theorem d7_spreadFollow_60 : jd cX7_spreadFollow 60 (.ixor) 1 61 := by decide +kernel
theorem d7_spreadFollow_61 : jd cX7_spreadFollow 61 (.iand) 1 62 := by decide +kernel
theorem d7_spreadFollow_62 : jdb cX7_spreadFollow 62 (.ifCond .eq 7) 7 69 65 := by decide +kernel
theorem d7_spreadFollow_65 : jdk cX7_spreadFollow 65 1 66 := Or.inl ⟨1, by decide +kernel⟩
theorem d7_spreadFollow_66 : jdb cX7_spreadFollow 66 (.goto 4) 4 70 69 := by decide +kernel
theorem d7_spreadFollow_69 : jdk cX7_spreadFollow 69 0 70 := Or.inl ⟨0, by decide +kernel⟩
theorem d7_spreadFollow_70 : jds cX7_spreadFollow 70 2 71 := Or.inl ⟨2, by decide +kernel⟩
theorem d7_spreadFollow_71 : jda cX7_spreadFollow 71 0 72 := Or.inl ⟨0, by decide +kernel⟩
theorem d7_spreadFollow_72 : jd cX7_spreadFollow 72 (.getfield 15) 3 75 := by decide +kernel
theorem d7_spreadFollow_75 : jdi cX7_spreadFollow 75 6 77 := Or.inr (by decide +kernel)
theorem d7_spreadFollow_77 : jd cX7_spreadFollow 77 (.dup2) 1 78 := by decide +kernel
theorem d7_spreadFollow_78 : jd cX7_spreadFollow 78 (.iaload) 1 79 := by decide +kernel
theorem d7_spreadFollow_79 : jdi cX7_spreadFollow 79 3 80 := Or.inl ⟨3, by decide +kernel⟩
theorem d7_spreadFollow_80 : jd cX7_spreadFollow 80 (.ior) 1 81 := by decide +kernel
theorem d7_spreadFollow_81 : jd cX7_spreadFollow 81 (.iastore) 1 82 := by decide +kernel
theorem d7_spreadFollow_82 : jda cX7_spreadFollow 82 0 83 := Or.inl ⟨0, by decide +kernel⟩
theorem d7_spreadFollow_83 : jdi cX7_spreadFollow 83 5 85 := Or.inr (by decide +kernel)
theorem d7_spreadFollow_85 : jd cX7_spreadFollow 85 (.invokevirtual 74) 3 88 := by decide +kernel
theorem d7_spreadFollow_88 : jdb cX7_spreadFollow 88 (.ifCond .eq 14) 14 102 91 := by decide +kernel
theorem d7_spreadFollow_91 : jdi cX7_spreadFollow 91 3 92 := Or.inl ⟨3, by decide +kernel⟩
theorem d7_spreadFollow_92 : jda cX7_spreadFollow 92 0 93 := Or.inl ⟨0, by decide +kernel⟩
theorem d7_spreadFollow_93 : jdi cX7_spreadFollow 93 5 95 := Or.inr (by decide +kernel)
theorem d7_spreadFollow_95 : jd cX7_spreadFollow 95 (.invokevirtual 77) 3 98 := by decide +kernel
theorem d7_spreadFollow_98 : jd cX7_spreadFollow 98 (.ior) 1 99 := by decide +kernel
theorem d7_spreadFollow_99 : jdb cX7_spreadFollow 99 (.goto 9) 9 108 102 := by decide +kernel
theorem d7_spreadFollow_102 : jda cX7_spreadFollow 102 0 103 := Or.inl ⟨0, by decide +kernel⟩
theorem d7_spreadFollow_103 : jdi cX7_spreadFollow 103 5 105 := Or.inr (by decide +kernel)
theorem d7_spreadFollow_105 : jd cX7_spreadFollow 105 (.invokevirtual 77) 3 108 := by decide +kernel
theorem d7_spreadFollow_108 : jds cX7_spreadFollow 108 3 109 := Or.inl ⟨3, by decide +kernel⟩
theorem d7_spreadFollow_109 : jd cX7_spreadFollow 109 (.iinc 4 (-1)) 3 112 := by decide +kernel
theorem d7_spreadFollow_112 : jdb cX7_spreadFollow 112 (.goto (-92)) (-92) 20 115 := by decide +kernel
theorem d7_spreadFollow_115 : jdi cX7_spreadFollow 115 2 116 := Or.inl ⟨2, by decide +kernel⟩
theorem d7_spreadFollow_116 : decode cX7_spreadFollow 116 = .ok (.ireturn, 1) := by decide +kernel
set_option maxHeartbeats 4000000 in
set_option maxRecDepth 100000 in
theorem wX7_spreadFollow_20 {X : jC} {tc : jTC} (C : jx X cX7_spreadFollow 7 RX7 (some .boolean) tc ({ frames := 2, cells := 0, slots := 0, locals := 42 } : Room)) (h_ h_first h_follow : Nat) (g_begins : Value) (p1 : Int32) (c_nullable : Int32) (c_first : (Nat → Int32)) (k6 : (Int32 × (Nat → Int32) → Option (Int32 × (Nat → Int32)))) (hk6 : ∀ w26 : Int32 × (Nat → Int32), jo X 7 (0, 0) (jQI X (fun (u : (Nat → Int32)) => [(h_, .inr (7, [.int c_nullable, .ref h_first, .ref h_follow, g_begins])), (h_first, .inl (tc.1, 8, .inl c_first)), (h_follow, .inl (tc.1, 8, .inl u))])) (k6 w26) [(h_, .inr (7, [.int c_nullable, .ref h_first, .ref h_follow, g_begins])), (h_first, .inl (tc.1, 8, .inl c_first)), (h_follow, .inl (tc.1, 8, .inl w26.2))] 115 [(2, .int w26.1)] []) (rc8 : Int32 × Int32 × Int32 × (Nat → Int32) → Option (Int32 × (Nat → Int32))) (hrc8 : ∀ v7 : Int32 × Int32 × Int32 × (Nat → Int32), jo X 7 (0, 0) (jQI X (fun (u : (Nat → Int32)) => [(h_, .inr (7, [.int c_nullable, .ref h_first, .ref h_follow, g_begins])), (h_first, .inl (tc.1, 8, .inl c_first)), (h_follow, .inl (tc.1, 8, .inl u))])) (rc8 v7) [(h_, .inr (7, [.int c_nullable, .ref h_first, .ref h_follow, g_begins])), (h_first, .inl (tc.1, 8, .inl c_first)), (h_follow, .inl (tc.1, 8, .inl v7.2.2.2))] 20 [(0, .ref h_), (1, .int p1), (2, .int v7.1), (3, .int v7.2.1), (4, .int v7.2.2.1)] []) (v7 : Int32 × Int32 × Int32 × (Nat → Int32)) : jo X 7 (0, 0) (jQI X (fun (u : (Nat → Int32)) => [(h_, .inr (7, [.int c_nullable, .ref h_first, .ref h_follow, g_begins])), (h_first, .inl (tc.1, 8, .inl c_first)), (h_follow, .inl (tc.1, 8, .inl u))])) (bX7_spreadFollow_20 p1 c_nullable c_first k6 rc8 v7) [(h_, .inr (7, [.int c_nullable, .ref h_first, .ref h_follow, g_begins])), (h_first, .inl (tc.1, 8, .inl c_first)), (h_follow, .inl (tc.1, 8, .inl v7.2.2.2))] 20 [(0, .ref h_), (1, .int p1), (2, .int v7.1), (3, .int v7.2.1), (4, .int v7.2.2.1)] [] := by
  unfold bX7_spreadFollow_20
  refine j_iload C d7_spreadFollow_20 4 rfl ?_
  refine j_if_lt C d7_spreadFollow_22 ?_ ?_
  · exact j_sub [2] rfl (hk6 _)
  · refine j_iload C d7_spreadFollow_25 1 rfl ?_
    refine j_iload C d7_spreadFollow_26 4 rfl ?_
    refine j_callSI0 (As := [.int p1, .int v7.2.2.1]) C d7_spreadFollow_28 ms7_71 (kX6_symbolOf _ _ tc p1 v7.2.2.1) ⟨rfl, rfl, Nat.le_of_ble_eq_true rfl, Nat.le_of_ble_eq_true rfl⟩ rfl [] rfl rfl rfl (Nat.le_of_ble_eq_true rfl) (fun x9 => ?_)
    refine j_istore C d7_spreadFollow_31 (by decide) (lv' := [(5, .int x9), (0, .ref h_), (1, .int p1), (2, .int v7.1), (3, .int v7.2.1), (4, .int v7.2.2.1)]) rfl ?_
    refine j_iload C d7_spreadFollow_33 0 rfl ?_
    refine j_const C d7_spreadFollow_35 ?_
    refine j_join 82 (fun v10 => [(h_, .inr (7, [.int c_nullable, .ref h_first, .ref h_follow, g_begins])), (h_first, .inl (tc.1, 8, .inl c_first)), (h_follow, .inl (tc.1, 8, .inl v10.2))]) (fun v10 => [(0, .ref h_), (1, .int p1), (2, .int v10.1), (3, .int v7.2.1), (4, .int v7.2.2.1), (5, .int x9)]) (fun v10 => []) (fun v10 => ?_) (fun k17 hk17 => ?_)
    · refine j_aload C d7_spreadFollow_82 0 rfl ?_
      refine j_iload C d7_spreadFollow_83 5 rfl ?_
      refine j_callVI0 (As := [.int x9]) C d7_spreadFollow_85 mv7_74 (kX7_isNullable _ _ tc h_ (.ref h_first) (.ref h_follow) g_begins c_nullable x9) ⟨rfl, rfl, Nat.le_of_ble_eq_true rfl, Nat.le_of_ble_eq_true rfl⟩ rfl 0 rfl [0] rfl rfl rfl (Nat.le_of_ble_eq_true rfl) (fun x11 => ?_)
      refine j_join 108 (fun v12 => [(h_, .inr (7, [.int c_nullable, .ref h_first, .ref h_follow, g_begins])), (h_first, .inl (tc.1, 8, .inl c_first)), (h_follow, .inl (tc.1, 8, .inl v10.2))]) (fun v12 => [(0, .ref h_), (1, .int p1), (2, .int v10.1), (4, .int v7.2.2.1)]) (fun v12 => [.int v12]) (fun v12 => ?_) (fun k14 hk14 => ?_)
      · refine j_istore C d7_spreadFollow_108 (by decide) (lv' := [(3, .int v12), (0, .ref h_), (1, .int p1), (2, .int v10.1), (4, .int v7.2.2.1)]) rfl ?_
        refine j_iincN C (fun x13 => [(4, .int x13), (3, .int v12), (0, .ref h_), (1, .int p1), (2, .int v10.1)]) d7_spreadFollow_109 4 rfl (by decide +kernel) (by decide) (fun _ => rfl) (fun x13 => ?_)
        refine j_goto C d7_spreadFollow_112 ?_
        exact j_sub [2, 3, 4, 1, 0] rfl (hrc8 _)
      · refine j_if_eq C d7_spreadFollow_88 ?_ ?_
        · refine j_aload C d7_spreadFollow_102 0 rfl ?_
          refine j_iload C d7_spreadFollow_103 5 rfl ?_
          refine j_callVI0 (As := [.int x9]) C d7_spreadFollow_105 mv7_77 (kX7_firstOf _ _ tc h_ h_first (.int c_nullable) (.ref h_follow) g_begins c_first x9) ⟨rfl, rfl, Nat.le_of_ble_eq_true rfl, Nat.le_of_ble_eq_true rfl⟩ rfl 0 rfl [0, 1] rfl rfl rfl (Nat.le_of_ble_eq_true rfl) (fun x15 => ?_)
          exact j_sub [0, 1, 2, 4] rfl (hk14 _)
        · refine j_iload C d7_spreadFollow_91 3 rfl ?_
          refine j_aload C d7_spreadFollow_92 0 rfl ?_
          refine j_iload C d7_spreadFollow_93 5 rfl ?_
          refine j_callVI0 (As := [.int x9]) C d7_spreadFollow_95 mv7_77 (kX7_firstOf _ _ tc h_ h_first (.int c_nullable) (.ref h_follow) g_begins c_first x9) ⟨rfl, rfl, Nat.le_of_ble_eq_true rfl, Nat.le_of_ble_eq_true rfl⟩ rfl 0 rfl [0, 1] rfl rfl rfl (Nat.le_of_ble_eq_true rfl) (fun x16 => ?_)
          refine j_ior C d7_spreadFollow_98 ?_
          refine j_goto C d7_spreadFollow_99 ?_
          exact j_sub [0, 1, 2, 4] rfl (hk14 _)
    · refine j_icmp_lt C d7_spreadFollow_37 ?_ ?_
      · exact j_sub [1, 2, 3, 4, 5, 0] rfl (hk17 _)
      · refine j_iload C d7_spreadFollow_40 0 rfl ?_
        refine j_const C d7_spreadFollow_42 ?_
        refine j_isub C d7_spreadFollow_44 ?_
        refine j_leti (fun x18 => ?_)
        refine j_istore C d7_spreadFollow_45 (by decide) (lv' := [(6, .int x18), (5, .int x9), (0, .ref h_), (1, .int p1), (2, .int v7.1), (3, .int v7.2.1), (4, .int v7.2.2.1)]) rfl ?_
        refine j_iload C d7_spreadFollow_47 4 rfl ?_
        refine j_join 70 (fun v19 => [(h_, .inr (7, [.int c_nullable, .ref h_first, .ref h_follow, g_begins])), (h_first, .inl (tc.1, 8, .inl c_first)), (h_follow, .inl (tc.1, 8, .inl v7.2.2.2))]) (fun v19 => [(0, .ref h_), (1, .int p1), (3, .int v7.2.1), (4, .int v7.2.2.1), (5, .int x9), (6, .int x18)]) (fun v19 => [.int v19]) (fun v19 => ?_) (fun k22 hk22 => ?_)
        · refine j_istore C d7_spreadFollow_70 (by decide) (lv' := [(2, .int v19), (0, .ref h_), (1, .int p1), (3, .int v7.2.1), (4, .int v7.2.2.1), (5, .int x9), (6, .int x18)]) rfl ?_
          refine j_aload C d7_spreadFollow_71 1 rfl ?_
          refine j_get C d7_spreadFollow_72 fl7_15 0 rfl rfl ?_
          refine j_iload C d7_spreadFollow_75 6 rfl ?_
          refine j_dup2 C d7_spreadFollow_77 rfl rfl ?_
          refine j_iald C d7_spreadFollow_78 2 rfl (fun x20 => ?_)
          refine j_iload C d7_spreadFollow_79 3 rfl ?_
          refine j_ior C d7_spreadFollow_80 ?_
          refine j_iast C (fun f21 => [(h_, .inr (7, [.int c_nullable, .ref h_first, .ref h_follow, g_begins])), (h_first, .inl (tc.1, 8, .inl c_first)), (h_follow, .inl (tc.1, 8, .inl f21))]) d7_spreadFollow_81 2 rfl (fun _ => rfl) (fun f21 => ?_)
          exact j_sub [1, 2, 0, 3, 4, 5] rfl (hk17 _)
        · refine j_join 65 (fun v23 => [(h_, .inr (7, [.int c_nullable, .ref h_first, .ref h_follow, g_begins])), (h_first, .inl (tc.1, 8, .inl c_first)), (h_follow, .inl (tc.1, 8, .inl v7.2.2.2))]) (fun v23 => [(0, .ref h_), (1, .int p1), (3, .int v7.2.1), (4, .int v7.2.2.1), (5, .int x9), (6, .int x18)]) (fun v23 => []) (fun v23 => ?_) (fun k24 hk24 => ?_)
          · refine j_const C d7_spreadFollow_65 ?_
            refine j_goto C d7_spreadFollow_66 ?_
            exact hk22 _
          · refine j_if_ne C d7_spreadFollow_48 ?_ ?_
            · exact j_sub [2, 3, 5, 6, 1, 0] rfl (hk24 _)
            · refine j_iload C d7_spreadFollow_51 5 rfl ?_
              refine j_aload C d7_spreadFollow_52 2 rfl ?_
              refine j_get C d7_spreadFollow_53 fl7_15 0 rfl rfl ?_
              refine j_iload C d7_spreadFollow_56 0 rfl ?_
              refine j_iald C d7_spreadFollow_58 2 rfl (fun x25 => ?_)
              refine j_const C d7_spreadFollow_59 ?_
              refine j_ixor C d7_spreadFollow_60 ?_
              refine j_iand C d7_spreadFollow_61 ?_
              refine j_if_eq C d7_spreadFollow_62 ?_ ?_
              · refine j_const C d7_spreadFollow_69 ?_
                exact j_sub [2, 3, 5, 6, 1, 0] rfl (hk22 _)
              · exact j_sub [2, 3, 5, 6, 1, 0] rfl (hk24 _)

set_option maxHeartbeats 4000000 in
set_option maxRecDepth 100000 in
theorem kX7_spreadFollow (l : Launch) (D : va_G) (tc : jTC) (N : Nat) (h_ h_first h_follow : Nat) (g_begins : Value) (c_nullable : Int32) (c_first : (Nat → Int32)) (c_follow : (Nat → Int32)) (p1 : Int32) : ctI l D tc yX7_spreadFollow (Cond.code yX7_spreadFollow cX7_spreadFollow 7 (some .boolean) :: jtb) ({ frames := 2, cells := 0, slots := 0, locals := 42 } : Room) [.ref h_, .int p1] [(h_, .inr (7, [.int c_nullable, .ref h_first, .ref h_follow, g_begins])), (h_first, .inl (tc.1, 8, .inl c_first)), (h_follow, .inl (tc.1, 8, .inl c_follow))] (fX7_spreadFollow N c_nullable c_first c_follow p1) (fun (u : (Nat → Int32)) => [(h_, .inr (7, [.int c_nullable, .ref h_first, .ref h_follow, g_begins])), (h_first, .inl (tc.1, 8, .inl c_first)), (h_follow, .inl (tc.1, 8, .inl u))]) := by
  refine ctI_of (lv0 := [(0, .ref h_), (1, .int p1)]) (by decide +kernel) (Nat.le_of_ble_eq_true rfl) rfl (fun X C => ?_)
  unfold fX7_spreadFollow
  refine j_const C d7_spreadFollow_0 ?_
  refine j_istore C d7_spreadFollow_1 (by decide) (lv' := [(2, .int 0), (0, .ref h_), (1, .int p1)]) rfl ?_
  refine j_aload C d7_spreadFollow_2 1 rfl ?_
  refine j_get C d7_spreadFollow_3 fl7_15 0 rfl rfl ?_
  refine j_iload C d7_spreadFollow_6 2 rfl ?_
  refine j_callSI0 (As := [.int p1]) C d7_spreadFollow_7 ms7_57 (kX6_leftOf _ _ tc p1) ⟨rfl, rfl, Nat.le_of_ble_eq_true rfl, Nat.le_of_ble_eq_true rfl⟩ rfl [] rfl rfl rfl (Nat.le_of_ble_eq_true rfl) (fun x1 => ?_)
  refine j_iald C d7_spreadFollow_10 2 rfl (fun x2 => ?_)
  refine j_istore C d7_spreadFollow_11 (by decide) (lv' := [(3, .int x2), (2, .int 0), (0, .ref h_), (1, .int p1)]) rfl ?_
  refine j_iload C d7_spreadFollow_12 3 rfl ?_
  refine j_callSI0 (As := [.int p1]) C d7_spreadFollow_13 ms7_68 (kX6_lengthOf _ _ tc p1) ⟨rfl, rfl, Nat.le_of_ble_eq_true rfl, Nat.le_of_ble_eq_true rfl⟩ rfl [] rfl rfl rfl (Nat.le_of_ble_eq_true rfl) (fun x3 => ?_)
  refine j_const C d7_spreadFollow_16 ?_
  refine j_isub C d7_spreadFollow_17 ?_
  refine j_leti (fun x4 => ?_)
  refine j_istore C d7_spreadFollow_18 (by decide) (lv' := [(4, .int x4), (3, .int x2), (2, .int 0), (0, .ref h_), (1, .int p1)]) rfl ?_
  refine j_join 115 (fun v5 => [(h_, .inr (7, [.int c_nullable, .ref h_first, .ref h_follow, g_begins])), (h_first, .inl (tc.1, 8, .inl c_first)), (h_follow, .inl (tc.1, 8, .inl v5.2))]) (fun v5 => [(2, .int v5.1)]) (fun v5 => []) (fun v5 => ?_) (fun k6 hk6 => ?_)
  · refine j_iload C d7_spreadFollow_115 0 rfl ?_
    refine j_gz (fun hz => ?_)
    exact j_zret C hz d7_spreadFollow_116 rfl
  · exact j_sub [3, 4, 2, 1, 0] rfl (j_loop (fun v7 => [(h_, .inr (7, [.int c_nullable, .ref h_first, .ref h_follow, g_begins])), (h_first, .inl (tc.1, 8, .inl c_first)), (h_follow, .inl (tc.1, 8, .inl v7.2.2.2))]) (fun v7 => [(0, .ref h_), (1, .int p1), (2, .int v7.1), (3, .int v7.2.1), (4, .int v7.2.2.1)]) (fun rc8 hrc8 v7 => wX7_spreadFollow_20 C h_ h_first h_follow g_begins p1 c_nullable c_first k6 hk6 rc8 hrc8 v7) N _)

theorem d7_computeFollow_0 : jdk cX7_computeFollow 0 1 1 := Or.inl ⟨1, by decide +kernel⟩
theorem d7_computeFollow_1 : jds cX7_computeFollow 1 2 2 := Or.inl ⟨2, by decide +kernel⟩
theorem d7_computeFollow_2 : jdk cX7_computeFollow 2 0 3 := Or.inl ⟨0, by decide +kernel⟩
theorem d7_computeFollow_3 : jds cX7_computeFollow 3 3 4 := Or.inl ⟨3, by decide +kernel⟩
theorem d7_computeFollow_4 : jdi cX7_computeFollow 4 3 5 := Or.inl ⟨3, by decide +kernel⟩
theorem d7_computeFollow_5 : jdk cX7_computeFollow 5 1000 8 := Or.inr (Or.inr ⟨1000, by decide +kernel⟩)
theorem d7_computeFollow_8 : jdb cX7_computeFollow 8 (.if_icmp .ge 57) 57 65 11 := by decide +kernel
theorem d7_computeFollow_11 : jdi cX7_computeFollow 11 2 12 := Or.inl ⟨2, by decide +kernel⟩
theorem d7_computeFollow_12 : jdb cX7_computeFollow 12 (.ifCond .eq 53) 53 65 15 := by decide +kernel
theorem d7_computeFollow_15 : jdk cX7_computeFollow 15 0 16 := Or.inl ⟨0, by decide +kernel⟩
theorem d7_computeFollow_16 : jds cX7_computeFollow 16 2 17 := Or.inl ⟨2, by decide +kernel⟩
theorem d7_computeFollow_17 : jdk cX7_computeFollow 17 0 18 := Or.inl ⟨0, by decide +kernel⟩
theorem d7_computeFollow_18 : jds cX7_computeFollow 18 4 20 := Or.inr (by decide +kernel)
theorem d7_computeFollow_20 : jdi cX7_computeFollow 20 4 22 := Or.inr (by decide +kernel)
theorem d7_computeFollow_22 : jda cX7_computeFollow 22 1 23 := Or.inl ⟨1, by decide +kernel⟩
theorem d7_computeFollow_23 : jd cX7_computeFollow 23 (.getfield 45) 3 26 := by decide +kernel
theorem d7_computeFollow_26 : jdb cX7_computeFollow 26 (.if_icmp .ge 33) 33 59 29 := by decide +kernel
theorem d7_computeFollow_29 : jda cX7_computeFollow 29 0 30 := Or.inl ⟨0, by decide +kernel⟩
theorem d7_computeFollow_30 : jda cX7_computeFollow 30 1 31 := Or.inl ⟨1, by decide +kernel⟩
theorem d7_computeFollow_31 : jd cX7_computeFollow 31 (.getfield 50) 3 34 := by decide +kernel
theorem d7_computeFollow_34 : jdi cX7_computeFollow 34 4 36 := Or.inr (by decide +kernel)
theorem d7_computeFollow_36 : jd cX7_computeFollow 36 (.iaload) 1 37 := by decide +kernel
theorem d7_computeFollow_37 : jd cX7_computeFollow 37 (.invokevirtual 64) 3 40 := by decide +kernel
theorem d7_computeFollow_40 : jdb cX7_computeFollow 40 (.ifCond .ne 7) 7 47 43 := by decide +kernel
theorem d7_computeFollow_43 : jdi cX7_computeFollow 43 2 44 := Or.inl ⟨2, by decide +kernel⟩
theorem d7_computeFollow_44 : jdb cX7_computeFollow 44 (.ifCond .eq 7) 7 51 47 := by decide +kernel
theorem d7_computeFollow_47 : jdk cX7_computeFollow 47 1 48 := Or.inl ⟨1, by decide +kernel⟩
theorem d7_computeFollow_48 : jdb cX7_computeFollow 48 (.goto 4) 4 52 51 := by decide +kernel
theorem d7_computeFollow_51 : jdk cX7_computeFollow 51 0 52 := Or.inl ⟨0, by decide +kernel⟩
theorem d7_computeFollow_52 : jds cX7_computeFollow 52 2 53 := Or.inl ⟨2, by decide +kernel⟩
theorem d7_computeFollow_53 : jd cX7_computeFollow 53 (.iinc 4 1) 3 56 := by decide +kernel
theorem d7_computeFollow_56 : jdb cX7_computeFollow 56 (.goto (-36)) (-36) 20 59 := by decide +kernel
theorem d7_computeFollow_59 : jd cX7_computeFollow 59 (.iinc 3 1) 3 62 := by decide +kernel
theorem d7_computeFollow_62 : jdb cX7_computeFollow 62 (.goto (-58)) (-58) 4 65 := by decide +kernel
theorem d7_computeFollow_65 : decode cX7_computeFollow 65 = .ok (.return_, 1) := by decide +kernel
set_option maxHeartbeats 4000000 in
set_option maxRecDepth 100000 in
theorem wX7_computeFollow_20 {X : jC} {tc : jTC} (C : jx X cX7_computeFollow 5 RX7 none tc ({ frames := 3, cells := 0, slots := 0, locals := 68 } : Room)) (N : Nat) (h_ h_first h_follow h_p1 h_p1_codes : Nat) (g_begins : Value) (c_nullable : Int32) (c_first : (Nat → Int32)) (c_p1_codes : (Nat → Int32)) (c_p1_count : Int32) (v3 : Int32 × Int32 × (Nat → Int32)) (k7 : (Int32 × (Nat → Int32) → Option ((Nat → Int32)))) (hk7 : ∀ w17 : Int32 × (Nat → Int32), jo X 5 (0, 0) (jQV X (fun (u : (Nat → Int32)) => [(h_, .inr (7, [.int c_nullable, .ref h_first, .ref h_follow, g_begins])), (h_first, .inl (tc.1, 8, .inl c_first)), (h_follow, .inl (tc.1, 8, .inl u)), (h_p1, .inr (6, [.ref h_p1_codes, .int c_p1_count])), (h_p1_codes, .inl (tc.1, 24, .inl c_p1_codes))])) (k7 w17) [(h_, .inr (7, [.int c_nullable, .ref h_first, .ref h_follow, g_begins])), (h_first, .inl (tc.1, 8, .inl c_first)), (h_follow, .inl (tc.1, 8, .inl w17.2)), (h_p1, .inr (6, [.ref h_p1_codes, .int c_p1_count])), (h_p1_codes, .inl (tc.1, 24, .inl c_p1_codes))] 59 [(0, .ref h_), (1, .ref h_p1), (2, .int w17.1), (3, .int v3.2.1)] []) (rc9 : Int32 × Int32 × (Nat → Int32) → Option ((Nat → Int32))) (hrc9 : ∀ v8 : Int32 × Int32 × (Nat → Int32), jo X 5 (0, 0) (jQV X (fun (u : (Nat → Int32)) => [(h_, .inr (7, [.int c_nullable, .ref h_first, .ref h_follow, g_begins])), (h_first, .inl (tc.1, 8, .inl c_first)), (h_follow, .inl (tc.1, 8, .inl u)), (h_p1, .inr (6, [.ref h_p1_codes, .int c_p1_count])), (h_p1_codes, .inl (tc.1, 24, .inl c_p1_codes))])) (rc9 v8) [(h_, .inr (7, [.int c_nullable, .ref h_first, .ref h_follow, g_begins])), (h_first, .inl (tc.1, 8, .inl c_first)), (h_follow, .inl (tc.1, 8, .inl v8.2.2)), (h_p1, .inr (6, [.ref h_p1_codes, .int c_p1_count])), (h_p1_codes, .inl (tc.1, 24, .inl c_p1_codes))] 20 [(0, .ref h_), (1, .ref h_p1), (2, .int v8.1), (3, .int v3.2.1), (4, .int v8.2.1)] []) (v8 : Int32 × Int32 × (Nat → Int32)) : jo X 5 (0, 0) (jQV X (fun (u : (Nat → Int32)) => [(h_, .inr (7, [.int c_nullable, .ref h_first, .ref h_follow, g_begins])), (h_first, .inl (tc.1, 8, .inl c_first)), (h_follow, .inl (tc.1, 8, .inl u)), (h_p1, .inr (6, [.ref h_p1_codes, .int c_p1_count])), (h_p1_codes, .inl (tc.1, 24, .inl c_p1_codes))])) (bX7_computeFollow_20 N c_nullable c_first c_p1_codes c_p1_count k7 rc9 v8) [(h_, .inr (7, [.int c_nullable, .ref h_first, .ref h_follow, g_begins])), (h_first, .inl (tc.1, 8, .inl c_first)), (h_follow, .inl (tc.1, 8, .inl v8.2.2)), (h_p1, .inr (6, [.ref h_p1_codes, .int c_p1_count])), (h_p1_codes, .inl (tc.1, 24, .inl c_p1_codes))] 20 [(0, .ref h_), (1, .ref h_p1), (2, .int v8.1), (3, .int v3.2.1), (4, .int v8.2.1)] [] := by
  unfold bX7_computeFollow_20
  refine j_iload C d7_computeFollow_20 4 rfl ?_
  refine j_aload C d7_computeFollow_22 1 rfl ?_
  refine j_get C d7_computeFollow_23 fl7_45 3 rfl rfl ?_
  refine j_icmp_ge C d7_computeFollow_26 ?_ ?_
  · exact j_sub [0, 1, 2, 3] rfl (hk7 _)
  · refine j_aload C d7_computeFollow_29 0 rfl ?_
    refine j_aload C d7_computeFollow_30 1 rfl ?_
    refine j_get C d7_computeFollow_31 fl7_50 3 rfl rfl ?_
    refine j_iload C d7_computeFollow_34 4 rfl ?_
    refine j_iald C d7_computeFollow_36 4 rfl (fun x10 => ?_)
    refine j_callVI (As := [.int x10]) C d7_computeFollow_37 mv7_64 (kX7_spreadFollow _ _ tc N h_ h_first h_follow g_begins c_nullable c_first v8.2.2 x10) ⟨rfl, rfl, Nat.le_of_ble_eq_true rfl, Nat.le_of_ble_eq_true rfl⟩ rfl 0 rfl [0, 1, 2] rfl rfl rfl (Nat.le_of_ble_eq_true rfl) (fun u => [(h_, .inr (7, [.int c_nullable, .ref h_first, .ref h_follow, g_begins])), (h_first, .inl (tc.1, 8, .inl c_first)), (h_follow, .inl (tc.1, 8, .inl u)), (h_p1, .inr (6, [.ref h_p1_codes, .int c_p1_count])), (h_p1_codes, .inl (tc.1, 24, .inl c_p1_codes))]) (fun _ => rfl) (fun _ => rfl) (fun _ => rfl) (fun o11 => ?_)
    refine j_join 52 (fun v12 => [(h_, .inr (7, [.int c_nullable, .ref h_first, .ref h_follow, g_begins])), (h_first, .inl (tc.1, 8, .inl c_first)), (h_follow, .inl (tc.1, 8, .inl o11.2)), (h_p1, .inr (6, [.ref h_p1_codes, .int c_p1_count])), (h_p1_codes, .inl (tc.1, 24, .inl c_p1_codes))]) (fun v12 => [(0, .ref h_), (1, .ref h_p1), (3, .int v3.2.1), (4, .int v8.2.1)]) (fun v12 => [.int v12]) (fun v12 => ?_) (fun k14 hk14 => ?_)
    · refine j_istore C d7_computeFollow_52 (by decide) (lv' := [(2, .int v12), (0, .ref h_), (1, .ref h_p1), (3, .int v3.2.1), (4, .int v8.2.1)]) rfl ?_
      refine j_iincN C (fun x13 => [(4, .int x13), (2, .int v12), (0, .ref h_), (1, .ref h_p1), (3, .int v3.2.1)]) d7_computeFollow_53 4 rfl (by decide +kernel) (by decide) (fun _ => rfl) (fun x13 => ?_)
      refine j_goto C d7_computeFollow_56 ?_
      exact j_sub [2, 3, 1, 4, 0] rfl (hrc9 _)
    · refine j_join 47 (fun v15 => [(h_, .inr (7, [.int c_nullable, .ref h_first, .ref h_follow, g_begins])), (h_first, .inl (tc.1, 8, .inl c_first)), (h_follow, .inl (tc.1, 8, .inl o11.2)), (h_p1, .inr (6, [.ref h_p1_codes, .int c_p1_count])), (h_p1_codes, .inl (tc.1, 24, .inl c_p1_codes))]) (fun v15 => [(0, .ref h_), (1, .ref h_p1), (3, .int v3.2.1), (4, .int v8.2.1)]) (fun v15 => []) (fun v15 => ?_) (fun k16 hk16 => ?_)
      · refine j_const C d7_computeFollow_47 ?_
        refine j_goto C d7_computeFollow_48 ?_
        exact hk14 _
      · refine j_if_ne C d7_computeFollow_40 ?_ ?_
        · exact j_sub [0, 1, 3, 4] rfl (hk16 _)
        · refine j_iload C d7_computeFollow_43 2 rfl ?_
          refine j_if_eq C d7_computeFollow_44 ?_ ?_
          · refine j_const C d7_computeFollow_51 ?_
            exact j_sub [0, 1, 3, 4] rfl (hk14 _)
          · exact j_sub [0, 1, 3, 4] rfl (hk16 _)

set_option maxHeartbeats 4000000 in
set_option maxRecDepth 100000 in
theorem wX7_computeFollow_4 {X : jC} {tc : jTC} (C : jx X cX7_computeFollow 5 RX7 none tc ({ frames := 3, cells := 0, slots := 0, locals := 68 } : Room)) (N : Nat) (h_ h_first h_follow h_p1 h_p1_codes : Nat) (g_begins : Value) (c_nullable : Int32) (c_first : (Nat → Int32)) (c_p1_codes : (Nat → Int32)) (c_p1_count : Int32) (k2 : ((Nat → Int32) → Option ((Nat → Int32)))) (hk2 : ∀ w18 : (Nat → Int32), jo X 5 (0, 0) (jQV X (fun (u : (Nat → Int32)) => [(h_, .inr (7, [.int c_nullable, .ref h_first, .ref h_follow, g_begins])), (h_first, .inl (tc.1, 8, .inl c_first)), (h_follow, .inl (tc.1, 8, .inl u)), (h_p1, .inr (6, [.ref h_p1_codes, .int c_p1_count])), (h_p1_codes, .inl (tc.1, 24, .inl c_p1_codes))])) (k2 w18) [(h_, .inr (7, [.int c_nullable, .ref h_first, .ref h_follow, g_begins])), (h_first, .inl (tc.1, 8, .inl c_first)), (h_follow, .inl (tc.1, 8, .inl w18)), (h_p1, .inr (6, [.ref h_p1_codes, .int c_p1_count])), (h_p1_codes, .inl (tc.1, 24, .inl c_p1_codes))] 65 [] []) (rc4 : Int32 × Int32 × (Nat → Int32) → Option ((Nat → Int32))) (hrc4 : ∀ v3 : Int32 × Int32 × (Nat → Int32), jo X 5 (0, 0) (jQV X (fun (u : (Nat → Int32)) => [(h_, .inr (7, [.int c_nullable, .ref h_first, .ref h_follow, g_begins])), (h_first, .inl (tc.1, 8, .inl c_first)), (h_follow, .inl (tc.1, 8, .inl u)), (h_p1, .inr (6, [.ref h_p1_codes, .int c_p1_count])), (h_p1_codes, .inl (tc.1, 24, .inl c_p1_codes))])) (rc4 v3) [(h_, .inr (7, [.int c_nullable, .ref h_first, .ref h_follow, g_begins])), (h_first, .inl (tc.1, 8, .inl c_first)), (h_follow, .inl (tc.1, 8, .inl v3.2.2)), (h_p1, .inr (6, [.ref h_p1_codes, .int c_p1_count])), (h_p1_codes, .inl (tc.1, 24, .inl c_p1_codes))] 4 [(0, .ref h_), (1, .ref h_p1), (2, .int v3.1), (3, .int v3.2.1)] []) (v3 : Int32 × Int32 × (Nat → Int32)) : jo X 5 (0, 0) (jQV X (fun (u : (Nat → Int32)) => [(h_, .inr (7, [.int c_nullable, .ref h_first, .ref h_follow, g_begins])), (h_first, .inl (tc.1, 8, .inl c_first)), (h_follow, .inl (tc.1, 8, .inl u)), (h_p1, .inr (6, [.ref h_p1_codes, .int c_p1_count])), (h_p1_codes, .inl (tc.1, 24, .inl c_p1_codes))])) (bX7_computeFollow_4 N c_nullable c_first c_p1_codes c_p1_count k2 rc4 v3) [(h_, .inr (7, [.int c_nullable, .ref h_first, .ref h_follow, g_begins])), (h_first, .inl (tc.1, 8, .inl c_first)), (h_follow, .inl (tc.1, 8, .inl v3.2.2)), (h_p1, .inr (6, [.ref h_p1_codes, .int c_p1_count])), (h_p1_codes, .inl (tc.1, 24, .inl c_p1_codes))] 4 [(0, .ref h_), (1, .ref h_p1), (2, .int v3.1), (3, .int v3.2.1)] [] := by
  unfold bX7_computeFollow_4
  refine j_iload C d7_computeFollow_4 3 rfl ?_
  refine j_const C d7_computeFollow_5 ?_
  refine j_icmp_ge C d7_computeFollow_8 ?_ ?_
  · exact j_sub [] rfl (hk2 _)
  · refine j_iload C d7_computeFollow_11 2 rfl ?_
    refine j_if_eq C d7_computeFollow_12 ?_ ?_
    · exact j_sub [] rfl (hk2 _)
    · refine j_const C d7_computeFollow_15 ?_
      refine j_istore C d7_computeFollow_16 (by decide) (lv' := [(2, .int 0), (0, .ref h_), (1, .ref h_p1), (3, .int v3.2.1)]) rfl ?_
      refine j_const C d7_computeFollow_17 ?_
      refine j_istore C d7_computeFollow_18 (by decide) (lv' := [(4, .int 0), (2, .int 0), (0, .ref h_), (1, .ref h_p1), (3, .int v3.2.1)]) rfl ?_
      refine j_join 59 (fun v5 => [(h_, .inr (7, [.int c_nullable, .ref h_first, .ref h_follow, g_begins])), (h_first, .inl (tc.1, 8, .inl c_first)), (h_follow, .inl (tc.1, 8, .inl v5.2)), (h_p1, .inr (6, [.ref h_p1_codes, .int c_p1_count])), (h_p1_codes, .inl (tc.1, 24, .inl c_p1_codes))]) (fun v5 => [(0, .ref h_), (1, .ref h_p1), (2, .int v5.1), (3, .int v3.2.1)]) (fun v5 => []) (fun v5 => ?_) (fun k7 hk7 => ?_)
      · refine j_iincN C (fun x6 => [(3, .int x6), (0, .ref h_), (1, .ref h_p1), (2, .int v5.1)]) d7_computeFollow_59 3 rfl (by decide +kernel) (by decide) (fun _ => rfl) (fun x6 => ?_)
        refine j_goto C d7_computeFollow_62 ?_
        exact j_sub [1, 2, 3, 0] rfl (hrc4 _)
      · exact j_sub [2, 3, 1, 4, 0] rfl (j_loop (fun v8 => [(h_, .inr (7, [.int c_nullable, .ref h_first, .ref h_follow, g_begins])), (h_first, .inl (tc.1, 8, .inl c_first)), (h_follow, .inl (tc.1, 8, .inl v8.2.2)), (h_p1, .inr (6, [.ref h_p1_codes, .int c_p1_count])), (h_p1_codes, .inl (tc.1, 24, .inl c_p1_codes))]) (fun v8 => [(0, .ref h_), (1, .ref h_p1), (2, .int v8.1), (3, .int v3.2.1), (4, .int v8.2.1)]) (fun rc9 hrc9 v8 => wX7_computeFollow_20 C N h_ h_first h_follow h_p1 h_p1_codes g_begins c_nullable c_first c_p1_codes c_p1_count v3 k7 hk7 rc9 hrc9 v8) N _)

set_option maxHeartbeats 4000000 in
set_option maxRecDepth 100000 in
theorem kX7_computeFollow (l : Launch) (D : va_G) (tc : jTC) (N : Nat) (h_ h_first h_follow h_p1 h_p1_codes : Nat) (g_begins : Value) (c_nullable : Int32) (c_first : (Nat → Int32)) (c_follow : (Nat → Int32)) (c_p1_codes : (Nat → Int32)) (c_p1_count : Int32) : ctV l D tc yX7_computeFollow (Cond.code yX7_computeFollow cX7_computeFollow 5 none :: jtb) ({ frames := 3, cells := 0, slots := 0, locals := 68 } : Room) [.ref h_, .ref h_p1] [(h_, .inr (7, [.int c_nullable, .ref h_first, .ref h_follow, g_begins])), (h_first, .inl (tc.1, 8, .inl c_first)), (h_follow, .inl (tc.1, 8, .inl c_follow)), (h_p1, .inr (6, [.ref h_p1_codes, .int c_p1_count])), (h_p1_codes, .inl (tc.1, 24, .inl c_p1_codes))] (fX7_computeFollow N c_nullable c_first c_follow c_p1_codes c_p1_count) (fun (u : (Nat → Int32)) => [(h_, .inr (7, [.int c_nullable, .ref h_first, .ref h_follow, g_begins])), (h_first, .inl (tc.1, 8, .inl c_first)), (h_follow, .inl (tc.1, 8, .inl u)), (h_p1, .inr (6, [.ref h_p1_codes, .int c_p1_count])), (h_p1_codes, .inl (tc.1, 24, .inl c_p1_codes))]) := by
  refine ctV_of (lv0 := [(0, .ref h_), (1, .ref h_p1)]) (by decide +kernel) (Nat.le_of_ble_eq_true rfl) rfl (fun X C => ?_)
  unfold fX7_computeFollow
  refine j_const C d7_computeFollow_0 ?_
  refine j_istore C d7_computeFollow_1 (by decide) (lv' := [(2, .int 1), (0, .ref h_), (1, .ref h_p1)]) rfl ?_
  refine j_const C d7_computeFollow_2 ?_
  refine j_istore C d7_computeFollow_3 (by decide) (lv' := [(3, .int 0), (2, .int 1), (0, .ref h_), (1, .ref h_p1)]) rfl ?_
  refine j_join 65 (fun v1 => [(h_, .inr (7, [.int c_nullable, .ref h_first, .ref h_follow, g_begins])), (h_first, .inl (tc.1, 8, .inl c_first)), (h_follow, .inl (tc.1, 8, .inl v1)), (h_p1, .inr (6, [.ref h_p1_codes, .int c_p1_count])), (h_p1_codes, .inl (tc.1, 24, .inl c_p1_codes))]) (fun v1 => []) (fun v1 => []) (fun v1 => ?_) (fun k2 hk2 => ?_)
  · exact j_vret C d7_computeFollow_65 rfl
  · exact j_sub [2, 3, 1, 0] rfl (j_loop (fun v3 => [(h_, .inr (7, [.int c_nullable, .ref h_first, .ref h_follow, g_begins])), (h_first, .inl (tc.1, 8, .inl c_first)), (h_follow, .inl (tc.1, 8, .inl v3.2.2)), (h_p1, .inr (6, [.ref h_p1_codes, .int c_p1_count])), (h_p1_codes, .inl (tc.1, 24, .inl c_p1_codes))]) (fun v3 => [(0, .ref h_), (1, .ref h_p1), (2, .int v3.1), (3, .int v3.2.1)]) (fun rc4 hrc4 v3 => wX7_computeFollow_4 C N h_ h_first h_follow h_p1 h_p1_codes g_begins c_nullable c_first c_p1_codes c_p1_count k2 hk2 rc4 hrc4 v3) N _)

theorem d7_compute_0 : jda cX7_compute 0 0 1 := Or.inl ⟨0, by decide +kernel⟩
theorem d7_compute_1 : jdk cX7_compute 1 0 2 := Or.inl ⟨0, by decide +kernel⟩
theorem d7_compute_2 : jd cX7_compute 2 (.putfield 21) 3 5 := by decide +kernel
theorem d7_compute_5 : jdk cX7_compute 5 0 6 := Or.inl ⟨0, by decide +kernel⟩
theorem d7_compute_6 : jds cX7_compute 6 2 7 := Or.inl ⟨2, by decide +kernel⟩
theorem d7_compute_7 : jdi cX7_compute 7 2 8 := Or.inl ⟨2, by decide +kernel⟩
theorem d7_compute_8 : jdk cX7_compute 8 8 10 := Or.inr (Or.inl ⟨8, by decide +kernel⟩)
theorem d7_compute_10 : jdb cX7_compute 10 (.if_icmp .ge 23) 23 33 13 := by decide +kernel
theorem d7_compute_13 : jda cX7_compute 13 0 14 := Or.inl ⟨0, by decide +kernel⟩
theorem d7_compute_14 : jd cX7_compute 14 (.getfield 9) 3 17 := by decide +kernel
theorem d7_compute_17 : jdi cX7_compute 17 2 18 := Or.inl ⟨2, by decide +kernel⟩
theorem d7_compute_18 : jdk cX7_compute 18 0 19 := Or.inl ⟨0, by decide +kernel⟩
theorem d7_compute_19 : jd cX7_compute 19 (.iastore) 1 20 := by decide +kernel
theorem d7_compute_20 : jda cX7_compute 20 0 21 := Or.inl ⟨0, by decide +kernel⟩
theorem d7_compute_21 : jd cX7_compute 21 (.getfield 15) 3 24 := by decide +kernel
theorem d7_compute_24 : jdi cX7_compute 24 2 25 := Or.inl ⟨2, by decide +kernel⟩
theorem d7_compute_25 : jdk cX7_compute 25 0 26 := Or.inl ⟨0, by decide +kernel⟩
theorem d7_compute_26 : jd cX7_compute 26 (.iastore) 1 27 := by decide +kernel
theorem d7_compute_27 : jd cX7_compute 27 (.iinc 2 1) 3 30 := by decide +kernel
theorem d7_compute_30 : jdb cX7_compute 30 (.goto (-23)) (-23) 7 33 := by decide +kernel
theorem d7_compute_33 : jda cX7_compute 33 0 34 := Or.inl ⟨0, by decide +kernel⟩
theorem d7_compute_34 : jd cX7_compute 34 (.getfield 15) 3 37 := by decide +kernel
theorem d7_compute_37 : jdk cX7_compute 37 0 38 := Or.inl ⟨0, by decide +kernel⟩
theorem d7_compute_38 : jdk cX7_compute 38 256 41 := Or.inr (Or.inr ⟨256, by decide +kernel⟩)
theorem d7_compute_41 : jd cX7_compute 41 (.iastore) 1 42 := by decide +kernel
theorem d7_compute_42 : jda cX7_compute 42 0 43 := Or.inl ⟨0, by decide +kernel⟩
theorem d7_compute_43 : jda cX7_compute 43 1 44 := Or.inl ⟨1, by decide +kernel⟩
theorem d7_compute_44 : jd cX7_compute 44 (.invokevirtual 35) 3 47 := by decide +kernel
theorem d7_compute_47 : jda cX7_compute 47 0 48 := Or.inl ⟨0, by decide +kernel⟩
theorem d7_compute_48 : jda cX7_compute 48 1 49 := Or.inl ⟨1, by decide +kernel⟩
theorem d7_compute_49 : jd cX7_compute 49 (.invokevirtual 39) 3 52 := by decide +kernel
theorem d7_compute_52 : jda cX7_compute 52 0 53 := Or.inl ⟨0, by decide +kernel⟩
theorem d7_compute_53 : jda cX7_compute 53 1 54 := Or.inl ⟨1, by decide +kernel⟩
theorem d7_compute_54 : jd cX7_compute 54 (.invokevirtual 42) 3 57 := by decide +kernel
theorem d7_compute_57 : decode cX7_compute 57 = .ok (.return_, 1) := by decide +kernel
set_option maxHeartbeats 4000000 in
set_option maxRecDepth 100000 in
theorem wX7_compute_7 {X : jC} {tc : jTC} (C : jx X cX7_compute 3 RX7 none tc ({ frames := 4, cells := 0, slots := 0, locals := 92 } : Room)) (h_ h_first h_follow h_p1 h_p1_codes : Nat) (g_begins : Value) (c_p1_codes : (Nat → Int32)) (c_p1_count : Int32) (k6 : ((Nat → Int32) × (Nat → Int32) → Option (Int32 × (Nat → Int32) × (Nat → Int32)))) (hk6 : ∀ w12 : (Nat → Int32) × (Nat → Int32), jo X 3 (0, 0) (jQV X (fun (u : Int32 × (Nat → Int32) × (Nat → Int32)) => [(h_, .inr (7, [.int u.1, .ref h_first, .ref h_follow, g_begins])), (h_first, .inl (tc.1, 8, .inl u.2.1)), (h_follow, .inl (tc.1, 8, .inl u.2.2)), (h_p1, .inr (6, [.ref h_p1_codes, .int c_p1_count])), (h_p1_codes, .inl (tc.1, 24, .inl c_p1_codes))])) (k6 w12) [(h_, .inr (7, [.int 0, .ref h_first, .ref h_follow, g_begins])), (h_first, .inl (tc.1, 8, .inl w12.1)), (h_follow, .inl (tc.1, 8, .inl w12.2)), (h_p1, .inr (6, [.ref h_p1_codes, .int c_p1_count])), (h_p1_codes, .inl (tc.1, 24, .inl c_p1_codes))] 33 [(0, .ref h_), (1, .ref h_p1)] []) (rc8 : Int32 × (Nat → Int32) × (Nat → Int32) → Option (Int32 × (Nat → Int32) × (Nat → Int32))) (hrc8 : ∀ v7 : Int32 × (Nat → Int32) × (Nat → Int32), jo X 3 (0, 0) (jQV X (fun (u : Int32 × (Nat → Int32) × (Nat → Int32)) => [(h_, .inr (7, [.int u.1, .ref h_first, .ref h_follow, g_begins])), (h_first, .inl (tc.1, 8, .inl u.2.1)), (h_follow, .inl (tc.1, 8, .inl u.2.2)), (h_p1, .inr (6, [.ref h_p1_codes, .int c_p1_count])), (h_p1_codes, .inl (tc.1, 24, .inl c_p1_codes))])) (rc8 v7) [(h_, .inr (7, [.int 0, .ref h_first, .ref h_follow, g_begins])), (h_first, .inl (tc.1, 8, .inl v7.2.1)), (h_follow, .inl (tc.1, 8, .inl v7.2.2)), (h_p1, .inr (6, [.ref h_p1_codes, .int c_p1_count])), (h_p1_codes, .inl (tc.1, 24, .inl c_p1_codes))] 7 [(0, .ref h_), (1, .ref h_p1), (2, .int v7.1)] []) (v7 : Int32 × (Nat → Int32) × (Nat → Int32)) : jo X 3 (0, 0) (jQV X (fun (u : Int32 × (Nat → Int32) × (Nat → Int32)) => [(h_, .inr (7, [.int u.1, .ref h_first, .ref h_follow, g_begins])), (h_first, .inl (tc.1, 8, .inl u.2.1)), (h_follow, .inl (tc.1, 8, .inl u.2.2)), (h_p1, .inr (6, [.ref h_p1_codes, .int c_p1_count])), (h_p1_codes, .inl (tc.1, 24, .inl c_p1_codes))])) (bX7_compute_7 k6 rc8 v7) [(h_, .inr (7, [.int 0, .ref h_first, .ref h_follow, g_begins])), (h_first, .inl (tc.1, 8, .inl v7.2.1)), (h_follow, .inl (tc.1, 8, .inl v7.2.2)), (h_p1, .inr (6, [.ref h_p1_codes, .int c_p1_count])), (h_p1_codes, .inl (tc.1, 24, .inl c_p1_codes))] 7 [(0, .ref h_), (1, .ref h_p1), (2, .int v7.1)] [] := by
  unfold bX7_compute_7
  refine j_iload C d7_compute_7 2 rfl ?_
  refine j_const C d7_compute_8 ?_
  refine j_icmp_ge C d7_compute_10 ?_ ?_
  · exact j_sub [0, 1] rfl (hk6 _)
  · refine j_aload C d7_compute_13 0 rfl ?_
    refine j_get C d7_compute_14 fl7_9 0 rfl rfl ?_
    refine j_iload C d7_compute_17 2 rfl ?_
    refine j_const C d7_compute_18 ?_
    refine j_iast C (fun f9 => [(h_, .inr (7, [.int 0, .ref h_first, .ref h_follow, g_begins])), (h_first, .inl (tc.1, 8, .inl f9)), (h_follow, .inl (tc.1, 8, .inl v7.2.2)), (h_p1, .inr (6, [.ref h_p1_codes, .int c_p1_count])), (h_p1_codes, .inl (tc.1, 24, .inl c_p1_codes))]) d7_compute_19 1 rfl (fun _ => rfl) (fun f9 => ?_)
    refine j_aload C d7_compute_20 0 rfl ?_
    refine j_get C d7_compute_21 fl7_15 0 rfl rfl ?_
    refine j_iload C d7_compute_24 2 rfl ?_
    refine j_const C d7_compute_25 ?_
    refine j_iast C (fun f10 => [(h_, .inr (7, [.int 0, .ref h_first, .ref h_follow, g_begins])), (h_first, .inl (tc.1, 8, .inl f9)), (h_follow, .inl (tc.1, 8, .inl f10)), (h_p1, .inr (6, [.ref h_p1_codes, .int c_p1_count])), (h_p1_codes, .inl (tc.1, 24, .inl c_p1_codes))]) d7_compute_26 2 rfl (fun _ => rfl) (fun f10 => ?_)
    refine j_iincN C (fun x11 => [(2, .int x11), (0, .ref h_), (1, .ref h_p1)]) d7_compute_27 2 rfl (by decide +kernel) (by decide) (fun _ => rfl) (fun x11 => ?_)
    refine j_goto C d7_compute_30 ?_
    exact j_sub [1, 2, 0] rfl (hrc8 _)

set_option maxHeartbeats 4000000 in
set_option maxRecDepth 100000 in
theorem kX7_compute (l : Launch) (D : va_G) (tc : jTC) (N : Nat) (h_ h_first h_follow h_p1 h_p1_codes : Nat) (g_begins : Value) (c_nullable : Int32) (c_first : (Nat → Int32)) (c_follow : (Nat → Int32)) (c_p1_codes : (Nat → Int32)) (c_p1_count : Int32) : ctV l D tc yX7_compute (Cond.code yX7_compute cX7_compute 3 none :: jtb) ({ frames := 4, cells := 0, slots := 0, locals := 92 } : Room) [.ref h_, .ref h_p1] [(h_, .inr (7, [.int c_nullable, .ref h_first, .ref h_follow, g_begins])), (h_first, .inl (tc.1, 8, .inl c_first)), (h_follow, .inl (tc.1, 8, .inl c_follow)), (h_p1, .inr (6, [.ref h_p1_codes, .int c_p1_count])), (h_p1_codes, .inl (tc.1, 24, .inl c_p1_codes))] (fX7_compute N c_nullable c_first c_follow c_p1_codes c_p1_count) (fun (u : Int32 × (Nat → Int32) × (Nat → Int32)) => [(h_, .inr (7, [.int u.1, .ref h_first, .ref h_follow, g_begins])), (h_first, .inl (tc.1, 8, .inl u.2.1)), (h_follow, .inl (tc.1, 8, .inl u.2.2)), (h_p1, .inr (6, [.ref h_p1_codes, .int c_p1_count])), (h_p1_codes, .inl (tc.1, 24, .inl c_p1_codes))]) := by
  refine ctV_of (lv0 := [(0, .ref h_), (1, .ref h_p1)]) (by decide +kernel) (Nat.le_of_ble_eq_true rfl) rfl (fun X C => ?_)
  unfold fX7_compute
  refine j_aload C d7_compute_0 0 rfl ?_
  refine j_const C d7_compute_1 ?_
  refine j_putq C d7_compute_2 fq7_21 0 rfl rfl rfl (Nat.le_of_ble_eq_true rfl) (ws' := [(h_, .inr (7, [.int 0, .ref h_first, .ref h_follow, g_begins])), (h_first, .inl (tc.1, 8, .inl c_first)), (h_follow, .inl (tc.1, 8, .inl c_follow)), (h_p1, .inr (6, [.ref h_p1_codes, .int c_p1_count])), (h_p1_codes, .inl (tc.1, 24, .inl c_p1_codes))]) rfl ?_
  refine j_const C d7_compute_5 ?_
  refine j_istore C d7_compute_6 (by decide) (lv' := [(2, .int 0), (0, .ref h_), (1, .ref h_p1)]) rfl ?_
  refine j_join 33 (fun v1 => [(h_, .inr (7, [.int 0, .ref h_first, .ref h_follow, g_begins])), (h_first, .inl (tc.1, 8, .inl v1.1)), (h_follow, .inl (tc.1, 8, .inl v1.2)), (h_p1, .inr (6, [.ref h_p1_codes, .int c_p1_count])), (h_p1_codes, .inl (tc.1, 24, .inl c_p1_codes))]) (fun v1 => [(0, .ref h_), (1, .ref h_p1)]) (fun v1 => []) (fun v1 => ?_) (fun k6 hk6 => ?_)
  · refine j_aload C d7_compute_33 0 rfl ?_
    refine j_get C d7_compute_34 fl7_15 0 rfl rfl ?_
    refine j_const C d7_compute_37 ?_
    refine j_const C d7_compute_38 ?_
    refine j_iast C (fun f2 => [(h_, .inr (7, [.int 0, .ref h_first, .ref h_follow, g_begins])), (h_first, .inl (tc.1, 8, .inl v1.1)), (h_follow, .inl (tc.1, 8, .inl f2)), (h_p1, .inr (6, [.ref h_p1_codes, .int c_p1_count])), (h_p1_codes, .inl (tc.1, 24, .inl c_p1_codes))]) d7_compute_41 2 rfl (fun _ => rfl) (fun f2 => ?_)
    refine j_aload C d7_compute_42 0 rfl ?_
    refine j_aload C d7_compute_43 1 rfl ?_
    refine j_callVV (As := [.ref h_p1]) C d7_compute_44 mv7_35 (kX7_computeNullable _ _ tc N h_ h_p1 h_p1_codes (.ref h_first) (.ref h_follow) g_begins 0 c_p1_codes c_p1_count) ⟨rfl, rfl, Nat.le_of_ble_eq_true rfl, Nat.le_of_ble_eq_true rfl⟩ rfl 0 rfl [0, 3, 4] rfl rfl rfl (Nat.le_of_ble_eq_true rfl) (fun u => [(h_, .inr (7, [.int u, .ref h_first, .ref h_follow, g_begins])), (h_first, .inl (tc.1, 8, .inl v1.1)), (h_follow, .inl (tc.1, 8, .inl f2)), (h_p1, .inr (6, [.ref h_p1_codes, .int c_p1_count])), (h_p1_codes, .inl (tc.1, 24, .inl c_p1_codes))]) (fun _ => rfl) (fun _ => rfl) (fun _ => rfl) (fun o3 => ?_)
    refine j_aload C d7_compute_47 0 rfl ?_
    refine j_aload C d7_compute_48 1 rfl ?_
    refine j_callVV (As := [.ref h_p1]) C d7_compute_49 mv7_39 (kX7_computeFirst _ _ tc N h_ h_first h_p1 h_p1_codes (.ref h_follow) g_begins o3 v1.1 c_p1_codes c_p1_count) ⟨rfl, rfl, Nat.le_of_ble_eq_true rfl, Nat.le_of_ble_eq_true rfl⟩ rfl 0 rfl [0, 1, 3, 4] rfl rfl rfl (Nat.le_of_ble_eq_true rfl) (fun u => [(h_, .inr (7, [.int o3, .ref h_first, .ref h_follow, g_begins])), (h_first, .inl (tc.1, 8, .inl u)), (h_follow, .inl (tc.1, 8, .inl f2)), (h_p1, .inr (6, [.ref h_p1_codes, .int c_p1_count])), (h_p1_codes, .inl (tc.1, 24, .inl c_p1_codes))]) (fun _ => rfl) (fun _ => rfl) (fun _ => rfl) (fun o4 => ?_)
    refine j_aload C d7_compute_52 0 rfl ?_
    refine j_aload C d7_compute_53 1 rfl ?_
    refine j_callVV (As := [.ref h_p1]) C d7_compute_54 mv7_42 (kX7_computeFollow _ _ tc N h_ h_first h_follow h_p1 h_p1_codes g_begins o3 o4 f2 c_p1_codes c_p1_count) ⟨rfl, rfl, Nat.le_of_ble_eq_true rfl, Nat.le_of_ble_eq_true rfl⟩ rfl 0 rfl [0, 1, 2, 3, 4] rfl rfl rfl (Nat.le_of_ble_eq_true rfl) (fun u => [(h_, .inr (7, [.int o3, .ref h_first, .ref h_follow, g_begins])), (h_first, .inl (tc.1, 8, .inl o4)), (h_follow, .inl (tc.1, 8, .inl u)), (h_p1, .inr (6, [.ref h_p1_codes, .int c_p1_count])), (h_p1_codes, .inl (tc.1, 24, .inl c_p1_codes))]) (fun _ => rfl) (fun _ => rfl) (fun _ => rfl) (fun o5 => ?_)
    exact j_vret C d7_compute_57 rfl
  · exact j_sub [1, 2, 0] rfl (j_loop (fun v7 => [(h_, .inr (7, [.int 0, .ref h_first, .ref h_follow, g_begins])), (h_first, .inl (tc.1, 8, .inl v7.2.1)), (h_follow, .inl (tc.1, 8, .inl v7.2.2)), (h_p1, .inr (6, [.ref h_p1_codes, .int c_p1_count])), (h_p1_codes, .inl (tc.1, 24, .inl c_p1_codes))]) (fun v7 => [(0, .ref h_), (1, .ref h_p1), (2, .int v7.1)]) (fun rc8 hrc8 v7 => wX7_compute_7 C h_ h_first h_follow h_p1 h_p1_codes g_begins c_p1_codes c_p1_count k6 hk6 rc8 hrc8 v7) N _)

theorem d7_productiveOnes_0 : jdk cX7_productiveOnes 0 0 1 := Or.inl ⟨0, by decide +kernel⟩
theorem d7_productiveOnes_1 : jds cX7_productiveOnes 1 2 2 := Or.inl ⟨2, by decide +kernel⟩
theorem d7_productiveOnes_2 : jdk cX7_productiveOnes 2 1 3 := Or.inl ⟨1, by decide +kernel⟩
theorem d7_productiveOnes_3 : jds cX7_productiveOnes 3 3 4 := Or.inl ⟨3, by decide +kernel⟩
theorem d7_productiveOnes_4 : jdk cX7_productiveOnes 4 0 5 := Or.inl ⟨0, by decide +kernel⟩
theorem d7_productiveOnes_5 : jds cX7_productiveOnes 5 4 7 := Or.inr (by decide +kernel)
theorem d7_productiveOnes_7 : jdi cX7_productiveOnes 7 4 9 := Or.inr (by decide +kernel)
theorem d7_productiveOnes_9 : jdk cX7_productiveOnes 9 1000 12 := Or.inr (Or.inr ⟨1000, by decide +kernel⟩)
theorem d7_productiveOnes_12 : jdb cX7_productiveOnes 12 (.if_icmp .ge 77) 77 89 15 := by decide +kernel
theorem d7_productiveOnes_15 : jdi cX7_productiveOnes 15 3 16 := Or.inl ⟨3, by decide +kernel⟩
theorem d7_productiveOnes_16 : jdb cX7_productiveOnes 16 (.ifCond .eq 73) 73 89 19 := by decide +kernel
theorem d7_productiveOnes_19 : jdi cX7_productiveOnes 19 2 20 := Or.inl ⟨2, by decide +kernel⟩
theorem d7_productiveOnes_20 : jds cX7_productiveOnes 20 5 22 := Or.inr (by decide +kernel)
theorem d7_productiveOnes_22 : jdk cX7_productiveOnes 22 0 23 := Or.inl ⟨0, by decide +kernel⟩
theorem d7_productiveOnes_23 : jds cX7_productiveOnes 23 6 25 := Or.inr (by decide +kernel)
theorem d7_productiveOnes_25 : jdi cX7_productiveOnes 25 6 27 := Or.inr (by decide +kernel)
theorem d7_productiveOnes_27 : jda cX7_productiveOnes 27 1 28 := Or.inl ⟨1, by decide +kernel⟩
theorem d7_productiveOnes_28 : jd cX7_productiveOnes 28 (.getfield 45) 3 31 := by decide +kernel
theorem d7_productiveOnes_31 : jdb cX7_productiveOnes 31 (.if_icmp .ge 40) 40 71 34 := by decide +kernel
theorem d7_productiveOnes_34 : jda cX7_productiveOnes 34 1 35 := Or.inl ⟨1, by decide +kernel⟩
theorem d7_productiveOnes_35 : jd cX7_productiveOnes 35 (.getfield 50) 3 38 := by decide +kernel
theorem d7_productiveOnes_38 : jdi cX7_productiveOnes 38 6 40 := Or.inr (by decide +kernel)
theorem d7_productiveOnes_40 : jd cX7_productiveOnes 40 (.iaload) 1 41 := by decide +kernel
theorem d7_productiveOnes_41 : jds cX7_productiveOnes 41 7 43 := Or.inr (by decide +kernel)
theorem d7_productiveOnes_43 : jdi cX7_productiveOnes 43 7 45 := Or.inr (by decide +kernel)
theorem d7_productiveOnes_45 : jd cX7_productiveOnes 45 (.invokestatic 80) 3 48 := by decide +kernel
theorem d7_productiveOnes_48 : jdi cX7_productiveOnes 48 2 49 := Or.inl ⟨2, by decide +kernel⟩
theorem d7_productiveOnes_49 : jdk cX7_productiveOnes 49 (-1) 50 := Or.inl ⟨(-1), by decide +kernel⟩
theorem d7_productiveOnes_50 : jd cX7_productiveOnes 50 (.ixor) 1 51 := by decide +kernel
theorem d7_productiveOnes_51 : jd cX7_productiveOnes 51 (.iand) 1 52 := by decide +kernel
theorem d7_productiveOnes_52 : jdb cX7_productiveOnes 52 (.ifCond .ne 13) 13 65 55 := by decide +kernel
theorem d7_productiveOnes_55 : jdi cX7_productiveOnes 55 2 56 := Or.inl ⟨2, by decide +kernel⟩
theorem d7_productiveOnes_56 : jdk cX7_productiveOnes 56 1 57 := Or.inl ⟨1, by decide +kernel⟩
theorem d7_productiveOnes_57 : jdi cX7_productiveOnes 57 7 59 := Or.inr (by decide +kernel)
theorem d7_productiveOnes_59 : jd cX7_productiveOnes 59 (.invokestatic 57) 3 62 := by decide +kernel
theorem d7_productiveOnes_62 : jd cX7_productiveOnes 62 (.ishl) 1 63 := by decide +kernel
theorem d7_productiveOnes_63 : jd cX7_productiveOnes 63 (.ior) 1 64 := by decide +kernel
theorem d7_productiveOnes_64 : jds cX7_productiveOnes 64 2 65 := Or.inl ⟨2, by decide +kernel⟩
theorem d7_productiveOnes_65 : jd cX7_productiveOnes 65 (.iinc 6 1) 3 68 := by decide +kernel
theorem d7_productiveOnes_68 : jdb cX7_productiveOnes 68 (.goto (-43)) (-43) 25 71 := by decide +kernel
theorem d7_productiveOnes_71 : jdi cX7_productiveOnes 71 2 72 := Or.inl ⟨2, by decide +kernel⟩
theorem d7_productiveOnes_72 : jdi cX7_productiveOnes 72 5 74 := Or.inr (by decide +kernel)
theorem d7_productiveOnes_74 : jdb cX7_productiveOnes 74 (.if_icmp .eq 7) 7 81 77 := by decide +kernel
theorem d7_productiveOnes_77 : jdk cX7_productiveOnes 77 1 78 := Or.inl ⟨1, by decide +kernel⟩
theorem d7_productiveOnes_78 : jdb cX7_productiveOnes 78 (.goto 4) 4 82 81 := by decide +kernel
theorem d7_productiveOnes_81 : jdk cX7_productiveOnes 81 0 82 := Or.inl ⟨0, by decide +kernel⟩
theorem d7_productiveOnes_82 : jds cX7_productiveOnes 82 3 83 := Or.inl ⟨3, by decide +kernel⟩
theorem d7_productiveOnes_83 : jd cX7_productiveOnes 83 (.iinc 4 1) 3 86 := by decide +kernel
theorem d7_productiveOnes_86 : jdb cX7_productiveOnes 86 (.goto (-79)) (-79) 7 89 := by decide +kernel
theorem d7_productiveOnes_89 : jdi cX7_productiveOnes 89 2 90 := Or.inl ⟨2, by decide +kernel⟩
theorem d7_productiveOnes_90 : decode cX7_productiveOnes 90 = .ok (.ireturn, 1) := by decide +kernel
set_option maxHeartbeats 4000000 in
set_option maxRecDepth 100000 in
theorem wX7_productiveOnes_25 {X : jC} {tc : jTC} (C : jx X cX7_productiveOnes 8 RX7 (some .int) tc ({ frames := 2, cells := 0, slots := 0, locals := 44 } : Room)) (N : Nat) (h_ h_p1 h_p1_codes : Nat) (g_nullable g_first g_follow g_begins : Value) (c_p1_codes : (Nat → Int32)) (c_p1_count : Int32) (v3 : Int32 × Int32 × Int32) (k9 : (Int32 → Option (Int32))) (hk9 : ∀ w19 : Int32, jo X 8 (0, 0) (jQI0 X [(h_, .inr (7, [g_nullable, g_first, g_follow, g_begins])), (h_p1, .inr (6, [.ref h_p1_codes, .int c_p1_count])), (h_p1_codes, .inl (tc.1, 24, .inl c_p1_codes))]) (k9 w19) [(h_, .inr (7, [g_nullable, g_first, g_follow, g_begins])), (h_p1, .inr (6, [.ref h_p1_codes, .int c_p1_count])), (h_p1_codes, .inl (tc.1, 24, .inl c_p1_codes))] 71 [(1, .ref h_p1), (2, .int w19), (4, .int v3.2.2), (5, .int v3.1)] []) (rc11 : Int32 × Int32 → Option (Int32)) (hrc11 : ∀ v10 : Int32 × Int32, jo X 8 (0, 0) (jQI0 X [(h_, .inr (7, [g_nullable, g_first, g_follow, g_begins])), (h_p1, .inr (6, [.ref h_p1_codes, .int c_p1_count])), (h_p1_codes, .inl (tc.1, 24, .inl c_p1_codes))]) (rc11 v10) [(h_, .inr (7, [g_nullable, g_first, g_follow, g_begins])), (h_p1, .inr (6, [.ref h_p1_codes, .int c_p1_count])), (h_p1_codes, .inl (tc.1, 24, .inl c_p1_codes))] 25 [(1, .ref h_p1), (2, .int v10.1), (4, .int v3.2.2), (5, .int v3.1), (6, .int v10.2)] []) (v10 : Int32 × Int32) : jo X 8 (0, 0) (jQI0 X [(h_, .inr (7, [g_nullable, g_first, g_follow, g_begins])), (h_p1, .inr (6, [.ref h_p1_codes, .int c_p1_count])), (h_p1_codes, .inl (tc.1, 24, .inl c_p1_codes))]) (bX7_productiveOnes_25 N c_p1_codes c_p1_count k9 rc11 v10) [(h_, .inr (7, [g_nullable, g_first, g_follow, g_begins])), (h_p1, .inr (6, [.ref h_p1_codes, .int c_p1_count])), (h_p1_codes, .inl (tc.1, 24, .inl c_p1_codes))] 25 [(1, .ref h_p1), (2, .int v10.1), (4, .int v3.2.2), (5, .int v3.1), (6, .int v10.2)] [] := by
  unfold bX7_productiveOnes_25
  refine j_iload C d7_productiveOnes_25 4 rfl ?_
  refine j_aload C d7_productiveOnes_27 0 rfl ?_
  refine j_get C d7_productiveOnes_28 fl7_45 1 rfl rfl ?_
  refine j_icmp_ge C d7_productiveOnes_31 ?_ ?_
  · exact j_sub [0, 1, 2, 3] rfl (hk9 _)
  · refine j_aload C d7_productiveOnes_34 0 rfl ?_
    refine j_get C d7_productiveOnes_35 fl7_50 1 rfl rfl ?_
    refine j_iload C d7_productiveOnes_38 4 rfl ?_
    refine j_iald C d7_productiveOnes_40 2 rfl (fun x12 => ?_)
    refine j_istore C d7_productiveOnes_41 (by decide) (lv' := [(7, .int x12), (1, .ref h_p1), (2, .int v10.1), (4, .int v3.2.2), (5, .int v3.1), (6, .int v10.2)]) rfl ?_
    refine j_iload C d7_productiveOnes_43 0 rfl ?_
    refine j_callSI0 (As := [.int x12]) C d7_productiveOnes_45 ms7_80 (kX6_nonterminalsIn _ _ tc N x12) ⟨rfl, rfl, Nat.le_of_ble_eq_true rfl, Nat.le_of_ble_eq_true rfl⟩ rfl [] rfl rfl rfl (Nat.le_of_ble_eq_true rfl) (fun x13 => ?_)
    refine j_iload C d7_productiveOnes_48 2 rfl ?_
    refine j_const C d7_productiveOnes_49 ?_
    refine j_ixor C d7_productiveOnes_50 ?_
    refine j_iand C d7_productiveOnes_51 ?_
    refine j_join 65 (fun v14 => [(h_, .inr (7, [g_nullable, g_first, g_follow, g_begins])), (h_p1, .inr (6, [.ref h_p1_codes, .int c_p1_count])), (h_p1_codes, .inl (tc.1, 24, .inl c_p1_codes))]) (fun v14 => [(1, .ref h_p1), (2, .int v14), (4, .int v3.2.2), (5, .int v3.1), (6, .int v10.2)]) (fun v14 => []) (fun v14 => ?_) (fun k16 hk16 => ?_)
    · refine j_iincN C (fun x15 => [(6, .int x15), (1, .ref h_p1), (2, .int v14), (4, .int v3.2.2), (5, .int v3.1)]) d7_productiveOnes_65 4 rfl (by decide +kernel) (by decide) (fun _ => rfl) (fun x15 => ?_)
      refine j_goto C d7_productiveOnes_68 ?_
      exact j_sub [1, 2, 3, 4, 0] rfl (hrc11 _)
    · refine j_if_ne C d7_productiveOnes_52 ?_ ?_
      · exact j_sub [1, 2, 3, 4, 5] rfl (hk16 _)
      · refine j_iload C d7_productiveOnes_55 2 rfl ?_
        refine j_const C d7_productiveOnes_56 ?_
        refine j_iload C d7_productiveOnes_57 0 rfl ?_
        refine j_callSI0 (As := [.int x12]) C d7_productiveOnes_59 ms7_57 (kX6_leftOf _ _ tc x12) ⟨rfl, rfl, Nat.le_of_ble_eq_true rfl, Nat.le_of_ble_eq_true rfl⟩ rfl [] rfl rfl rfl (Nat.le_of_ble_eq_true rfl) (fun x17 => ?_)
        refine j_ishl C d7_productiveOnes_62 ?_
        refine j_ior C d7_productiveOnes_63 ?_
        refine j_leti (fun x18 => ?_)
        refine j_istore C d7_productiveOnes_64 (by decide) (lv' := [(2, .int x18), (7, .int x12), (1, .ref h_p1), (4, .int v3.2.2), (5, .int v3.1), (6, .int v10.2)]) rfl ?_
        exact j_sub [2, 0, 3, 4, 5] rfl (hk16 _)

set_option maxHeartbeats 4000000 in
set_option maxRecDepth 100000 in
theorem wX7_productiveOnes_7 {X : jC} {tc : jTC} (C : jx X cX7_productiveOnes 8 RX7 (some .int) tc ({ frames := 2, cells := 0, slots := 0, locals := 44 } : Room)) (N : Nat) (h_ h_p1 h_p1_codes : Nat) (g_nullable g_first g_follow g_begins : Value) (c_p1_codes : (Nat → Int32)) (c_p1_count : Int32) (k2 : (Int32 → Option (Int32))) (hk2 : ∀ w20 : Int32, jo X 8 (0, 0) (jQI0 X [(h_, .inr (7, [g_nullable, g_first, g_follow, g_begins])), (h_p1, .inr (6, [.ref h_p1_codes, .int c_p1_count])), (h_p1_codes, .inl (tc.1, 24, .inl c_p1_codes))]) (k2 w20) [(h_, .inr (7, [g_nullable, g_first, g_follow, g_begins])), (h_p1, .inr (6, [.ref h_p1_codes, .int c_p1_count])), (h_p1_codes, .inl (tc.1, 24, .inl c_p1_codes))] 89 [(2, .int w20)] []) (rc4 : Int32 × Int32 × Int32 → Option (Int32)) (hrc4 : ∀ v3 : Int32 × Int32 × Int32, jo X 8 (0, 0) (jQI0 X [(h_, .inr (7, [g_nullable, g_first, g_follow, g_begins])), (h_p1, .inr (6, [.ref h_p1_codes, .int c_p1_count])), (h_p1_codes, .inl (tc.1, 24, .inl c_p1_codes))]) (rc4 v3) [(h_, .inr (7, [g_nullable, g_first, g_follow, g_begins])), (h_p1, .inr (6, [.ref h_p1_codes, .int c_p1_count])), (h_p1_codes, .inl (tc.1, 24, .inl c_p1_codes))] 7 [(1, .ref h_p1), (2, .int v3.1), (3, .int v3.2.1), (4, .int v3.2.2)] []) (v3 : Int32 × Int32 × Int32) : jo X 8 (0, 0) (jQI0 X [(h_, .inr (7, [g_nullable, g_first, g_follow, g_begins])), (h_p1, .inr (6, [.ref h_p1_codes, .int c_p1_count])), (h_p1_codes, .inl (tc.1, 24, .inl c_p1_codes))]) (bX7_productiveOnes_7 N c_p1_codes c_p1_count k2 rc4 v3) [(h_, .inr (7, [g_nullable, g_first, g_follow, g_begins])), (h_p1, .inr (6, [.ref h_p1_codes, .int c_p1_count])), (h_p1_codes, .inl (tc.1, 24, .inl c_p1_codes))] 7 [(1, .ref h_p1), (2, .int v3.1), (3, .int v3.2.1), (4, .int v3.2.2)] [] := by
  unfold bX7_productiveOnes_7
  refine j_iload C d7_productiveOnes_7 3 rfl ?_
  refine j_const C d7_productiveOnes_9 ?_
  refine j_icmp_ge C d7_productiveOnes_12 ?_ ?_
  · exact j_sub [1] rfl (hk2 _)
  · refine j_iload C d7_productiveOnes_15 2 rfl ?_
    refine j_if_eq C d7_productiveOnes_16 ?_ ?_
    · exact j_sub [1] rfl (hk2 _)
    · refine j_iload C d7_productiveOnes_19 1 rfl ?_
      refine j_istore C d7_productiveOnes_20 (by decide) (lv' := [(5, .int v3.1), (1, .ref h_p1), (2, .int v3.1), (3, .int v3.2.1), (4, .int v3.2.2)]) rfl ?_
      refine j_const C d7_productiveOnes_22 ?_
      refine j_istore C d7_productiveOnes_23 (by decide) (lv' := [(6, .int 0), (5, .int v3.1), (1, .ref h_p1), (2, .int v3.1), (3, .int v3.2.1), (4, .int v3.2.2)]) rfl ?_
      refine j_join 71 (fun v5 => [(h_, .inr (7, [g_nullable, g_first, g_follow, g_begins])), (h_p1, .inr (6, [.ref h_p1_codes, .int c_p1_count])), (h_p1_codes, .inl (tc.1, 24, .inl c_p1_codes))]) (fun v5 => [(1, .ref h_p1), (2, .int v5), (4, .int v3.2.2), (5, .int v3.1)]) (fun v5 => []) (fun v5 => ?_) (fun k9 hk9 => ?_)
      · refine j_iload C d7_productiveOnes_71 1 rfl ?_
        refine j_iload C d7_productiveOnes_72 3 rfl ?_
        refine j_join 82 (fun v6 => [(h_, .inr (7, [g_nullable, g_first, g_follow, g_begins])), (h_p1, .inr (6, [.ref h_p1_codes, .int c_p1_count])), (h_p1_codes, .inl (tc.1, 24, .inl c_p1_codes))]) (fun v6 => [(1, .ref h_p1), (2, .int v5), (4, .int v3.2.2)]) (fun v6 => [.int v6]) (fun v6 => ?_) (fun k8 hk8 => ?_)
        · refine j_istore C d7_productiveOnes_82 (by decide) (lv' := [(3, .int v6), (1, .ref h_p1), (2, .int v5), (4, .int v3.2.2)]) rfl ?_
          refine j_iincN C (fun x7 => [(4, .int x7), (3, .int v6), (1, .ref h_p1), (2, .int v5)]) d7_productiveOnes_83 3 rfl (by decide +kernel) (by decide) (fun _ => rfl) (fun x7 => ?_)
          refine j_goto C d7_productiveOnes_86 ?_
          exact j_sub [2, 3, 1, 0] rfl (hrc4 _)
        · refine j_icmp_eq C d7_productiveOnes_74 ?_ ?_
          · refine j_const C d7_productiveOnes_81 ?_
            exact j_sub [0, 1, 2] rfl (hk8 _)
          · refine j_const C d7_productiveOnes_77 ?_
            refine j_goto C d7_productiveOnes_78 ?_
            exact j_sub [0, 1, 2] rfl (hk8 _)
      · exact j_sub [2, 3, 5, 1, 0] rfl (j_loop (fun v10 => [(h_, .inr (7, [g_nullable, g_first, g_follow, g_begins])), (h_p1, .inr (6, [.ref h_p1_codes, .int c_p1_count])), (h_p1_codes, .inl (tc.1, 24, .inl c_p1_codes))]) (fun v10 => [(1, .ref h_p1), (2, .int v10.1), (4, .int v3.2.2), (5, .int v3.1), (6, .int v10.2)]) (fun rc11 hrc11 v10 => wX7_productiveOnes_25 C N h_ h_p1 h_p1_codes g_nullable g_first g_follow g_begins c_p1_codes c_p1_count v3 k9 hk9 rc11 hrc11 v10) N _)

set_option maxHeartbeats 4000000 in
set_option maxRecDepth 100000 in
theorem kX7_productiveOnes (l : Launch) (D : va_G) (tc : jTC) (N : Nat) (h_ h_p1 h_p1_codes : Nat) (g_nullable g_first g_follow g_begins : Value) (c_p1_codes : (Nat → Int32)) (c_p1_count : Int32) : ctI0 l D tc yX7_productiveOnes (Cond.code yX7_productiveOnes cX7_productiveOnes 8 (some .int) :: jtb) ({ frames := 2, cells := 0, slots := 0, locals := 44 } : Room) [.ref h_, .ref h_p1] [(h_, .inr (7, [g_nullable, g_first, g_follow, g_begins])), (h_p1, .inr (6, [.ref h_p1_codes, .int c_p1_count])), (h_p1_codes, .inl (tc.1, 24, .inl c_p1_codes))] (fX7_productiveOnes N c_p1_codes c_p1_count) := by
  refine ctI0_of (lv0 := [(0, .ref h_), (1, .ref h_p1)]) (by decide +kernel) (Nat.le_of_ble_eq_true rfl) rfl (fun X C => ?_)
  unfold fX7_productiveOnes
  refine j_const C d7_productiveOnes_0 ?_
  refine j_istore C d7_productiveOnes_1 (by decide) (lv' := [(2, .int 0), (0, .ref h_), (1, .ref h_p1)]) rfl ?_
  refine j_const C d7_productiveOnes_2 ?_
  refine j_istore C d7_productiveOnes_3 (by decide) (lv' := [(3, .int 1), (2, .int 0), (0, .ref h_), (1, .ref h_p1)]) rfl ?_
  refine j_const C d7_productiveOnes_4 ?_
  refine j_istore C d7_productiveOnes_5 (by decide) (lv' := [(4, .int 0), (3, .int 1), (2, .int 0), (0, .ref h_), (1, .ref h_p1)]) rfl ?_
  refine j_join 89 (fun v1 => [(h_, .inr (7, [g_nullable, g_first, g_follow, g_begins])), (h_p1, .inr (6, [.ref h_p1_codes, .int c_p1_count])), (h_p1_codes, .inl (tc.1, 24, .inl c_p1_codes))]) (fun v1 => [(2, .int v1)]) (fun v1 => []) (fun v1 => ?_) (fun k2 hk2 => ?_)
  · refine j_iload C d7_productiveOnes_89 0 rfl ?_
    exact j_iret0 C d7_productiveOnes_90
  · exact j_sub [4, 2, 1, 0] rfl (j_loop (fun v3 => [(h_, .inr (7, [g_nullable, g_first, g_follow, g_begins])), (h_p1, .inr (6, [.ref h_p1_codes, .int c_p1_count])), (h_p1_codes, .inl (tc.1, 24, .inl c_p1_codes))]) (fun v3 => [(1, .ref h_p1), (2, .int v3.1), (3, .int v3.2.1), (4, .int v3.2.2)]) (fun rc4 hrc4 v3 => wX7_productiveOnes_7 C N h_ h_p1 h_p1_codes g_nullable g_first g_follow g_begins c_p1_codes c_p1_count k2 hk2 rc4 hrc4 v3) N _)

theorem d7_reachableOnes_0 : jdk cX7_reachableOnes 0 1 1 := Or.inl ⟨1, by decide +kernel⟩
theorem d7_reachableOnes_1 : jds cX7_reachableOnes 1 2 2 := Or.inl ⟨2, by decide +kernel⟩
theorem d7_reachableOnes_2 : jdk cX7_reachableOnes 2 1 3 := Or.inl ⟨1, by decide +kernel⟩
theorem d7_reachableOnes_3 : jds cX7_reachableOnes 3 3 4 := Or.inl ⟨3, by decide +kernel⟩
theorem d7_reachableOnes_4 : jdk cX7_reachableOnes 4 0 5 := Or.inl ⟨0, by decide +kernel⟩
theorem d7_reachableOnes_5 : jds cX7_reachableOnes 5 4 7 := Or.inr (by decide +kernel)
theorem d7_reachableOnes_7 : jdi cX7_reachableOnes 7 4 9 := Or.inr (by decide +kernel)
theorem d7_reachableOnes_9 : jdk cX7_reachableOnes 9 1000 12 := Or.inr (Or.inr ⟨1000, by decide +kernel⟩)
theorem d7_reachableOnes_12 : jdb cX7_reachableOnes 12 (.if_icmp .ge 76) 76 88 15 := by decide +kernel
theorem d7_reachableOnes_15 : jdi cX7_reachableOnes 15 3 16 := Or.inl ⟨3, by decide +kernel⟩
theorem d7_reachableOnes_16 : jdb cX7_reachableOnes 16 (.ifCond .eq 72) 72 88 19 := by decide +kernel
theorem d7_reachableOnes_19 : jdi cX7_reachableOnes 19 2 20 := Or.inl ⟨2, by decide +kernel⟩
theorem d7_reachableOnes_20 : jds cX7_reachableOnes 20 5 22 := Or.inr (by decide +kernel)
theorem d7_reachableOnes_22 : jdk cX7_reachableOnes 22 0 23 := Or.inl ⟨0, by decide +kernel⟩
theorem d7_reachableOnes_23 : jds cX7_reachableOnes 23 6 25 := Or.inr (by decide +kernel)
theorem d7_reachableOnes_25 : jdi cX7_reachableOnes 25 6 27 := Or.inr (by decide +kernel)
theorem d7_reachableOnes_27 : jda cX7_reachableOnes 27 1 28 := Or.inl ⟨1, by decide +kernel⟩
theorem d7_reachableOnes_28 : jd cX7_reachableOnes 28 (.getfield 45) 3 31 := by decide +kernel
theorem d7_reachableOnes_31 : jdb cX7_reachableOnes 31 (.if_icmp .ge 39) 39 70 34 := by decide +kernel
theorem d7_reachableOnes_34 : jda cX7_reachableOnes 34 1 35 := Or.inl ⟨1, by decide +kernel⟩
theorem d7_reachableOnes_35 : jd cX7_reachableOnes 35 (.getfield 50) 3 38 := by decide +kernel
theorem d7_reachableOnes_38 : jdi cX7_reachableOnes 38 6 40 := Or.inr (by decide +kernel)
theorem d7_reachableOnes_40 : jd cX7_reachableOnes 40 (.iaload) 1 41 := by decide +kernel
theorem d7_reachableOnes_41 : jds cX7_reachableOnes 41 7 43 := Or.inr (by decide +kernel)
theorem d7_reachableOnes_43 : jdi cX7_reachableOnes 43 2 44 := Or.inl ⟨2, by decide +kernel⟩
theorem d7_reachableOnes_44 : jdi cX7_reachableOnes 44 7 46 := Or.inr (by decide +kernel)
theorem d7_reachableOnes_46 : jd cX7_reachableOnes 46 (.invokestatic 57) 3 49 := by decide +kernel
theorem d7_reachableOnes_49 : jd cX7_reachableOnes 49 (.invokestatic 31) 3 52 := by decide +kernel
theorem d7_reachableOnes_52 : jdk cX7_reachableOnes 52 1 53 := Or.inl ⟨1, by decide +kernel⟩
theorem d7_reachableOnes_53 : jdb cX7_reachableOnes 53 (.if_icmp .ne 11) 11 64 56 := by decide +kernel
theorem d7_reachableOnes_56 : jdi cX7_reachableOnes 56 2 57 := Or.inl ⟨2, by decide +kernel⟩
theorem d7_reachableOnes_57 : jdi cX7_reachableOnes 57 7 59 := Or.inr (by decide +kernel)
theorem d7_reachableOnes_59 : jd cX7_reachableOnes 59 (.invokestatic 80) 3 62 := by decide +kernel
theorem d7_reachableOnes_62 : jd cX7_reachableOnes 62 (.ior) 1 63 := by decide +kernel
theorem d7_reachableOnes_63 : jds cX7_reachableOnes 63 2 64 := Or.inl ⟨2, by decide +kernel⟩
theorem d7_reachableOnes_64 : jd cX7_reachableOnes 64 (.iinc 6 1) 3 67 := by decide +kernel
theorem d7_reachableOnes_67 : jdb cX7_reachableOnes 67 (.goto (-42)) (-42) 25 70 := by decide +kernel
theorem d7_reachableOnes_70 : jdi cX7_reachableOnes 70 2 71 := Or.inl ⟨2, by decide +kernel⟩
theorem d7_reachableOnes_71 : jdi cX7_reachableOnes 71 5 73 := Or.inr (by decide +kernel)
theorem d7_reachableOnes_73 : jdb cX7_reachableOnes 73 (.if_icmp .eq 7) 7 80 76 := by decide +kernel
theorem d7_reachableOnes_76 : jdk cX7_reachableOnes 76 1 77 := Or.inl ⟨1, by decide +kernel⟩
theorem d7_reachableOnes_77 : jdb cX7_reachableOnes 77 (.goto 4) 4 81 80 := by decide +kernel
theorem d7_reachableOnes_80 : jdk cX7_reachableOnes 80 0 81 := Or.inl ⟨0, by decide +kernel⟩
theorem d7_reachableOnes_81 : jds cX7_reachableOnes 81 3 82 := Or.inl ⟨3, by decide +kernel⟩
theorem d7_reachableOnes_82 : jd cX7_reachableOnes 82 (.iinc 4 1) 3 85 := by decide +kernel
theorem d7_reachableOnes_85 : jdb cX7_reachableOnes 85 (.goto (-78)) (-78) 7 88 := by decide +kernel
theorem d7_reachableOnes_88 : jdi cX7_reachableOnes 88 2 89 := Or.inl ⟨2, by decide +kernel⟩
theorem d7_reachableOnes_89 : decode cX7_reachableOnes 89 = .ok (.ireturn, 1) := by decide +kernel
set_option maxHeartbeats 4000000 in
set_option maxRecDepth 100000 in
theorem wX7_reachableOnes_25 {X : jC} {tc : jTC} (C : jx X cX7_reachableOnes 8 RX7 (some .int) tc ({ frames := 2, cells := 0, slots := 0, locals := 44 } : Room)) (N : Nat) (h_ h_p1 h_p1_codes : Nat) (g_nullable g_first g_follow g_begins : Value) (c_p1_codes : (Nat → Int32)) (c_p1_count : Int32) (v3 : Int32 × Int32 × Int32) (k9 : (Int32 → Option (Int32))) (hk9 : ∀ w20 : Int32, jo X 8 (0, 0) (jQI0 X [(h_, .inr (7, [g_nullable, g_first, g_follow, g_begins])), (h_p1, .inr (6, [.ref h_p1_codes, .int c_p1_count])), (h_p1_codes, .inl (tc.1, 24, .inl c_p1_codes))]) (k9 w20) [(h_, .inr (7, [g_nullable, g_first, g_follow, g_begins])), (h_p1, .inr (6, [.ref h_p1_codes, .int c_p1_count])), (h_p1_codes, .inl (tc.1, 24, .inl c_p1_codes))] 70 [(1, .ref h_p1), (2, .int w20), (4, .int v3.2.2), (5, .int v3.1)] []) (rc11 : Int32 × Int32 → Option (Int32)) (hrc11 : ∀ v10 : Int32 × Int32, jo X 8 (0, 0) (jQI0 X [(h_, .inr (7, [g_nullable, g_first, g_follow, g_begins])), (h_p1, .inr (6, [.ref h_p1_codes, .int c_p1_count])), (h_p1_codes, .inl (tc.1, 24, .inl c_p1_codes))]) (rc11 v10) [(h_, .inr (7, [g_nullable, g_first, g_follow, g_begins])), (h_p1, .inr (6, [.ref h_p1_codes, .int c_p1_count])), (h_p1_codes, .inl (tc.1, 24, .inl c_p1_codes))] 25 [(1, .ref h_p1), (2, .int v10.1), (4, .int v3.2.2), (5, .int v3.1), (6, .int v10.2)] []) (v10 : Int32 × Int32) : jo X 8 (0, 0) (jQI0 X [(h_, .inr (7, [g_nullable, g_first, g_follow, g_begins])), (h_p1, .inr (6, [.ref h_p1_codes, .int c_p1_count])), (h_p1_codes, .inl (tc.1, 24, .inl c_p1_codes))]) (bX7_reachableOnes_25 N c_p1_codes c_p1_count k9 rc11 v10) [(h_, .inr (7, [g_nullable, g_first, g_follow, g_begins])), (h_p1, .inr (6, [.ref h_p1_codes, .int c_p1_count])), (h_p1_codes, .inl (tc.1, 24, .inl c_p1_codes))] 25 [(1, .ref h_p1), (2, .int v10.1), (4, .int v3.2.2), (5, .int v3.1), (6, .int v10.2)] [] := by
  unfold bX7_reachableOnes_25
  refine j_iload C d7_reachableOnes_25 4 rfl ?_
  refine j_aload C d7_reachableOnes_27 0 rfl ?_
  refine j_get C d7_reachableOnes_28 fl7_45 1 rfl rfl ?_
  refine j_icmp_ge C d7_reachableOnes_31 ?_ ?_
  · exact j_sub [0, 1, 2, 3] rfl (hk9 _)
  · refine j_aload C d7_reachableOnes_34 0 rfl ?_
    refine j_get C d7_reachableOnes_35 fl7_50 1 rfl rfl ?_
    refine j_iload C d7_reachableOnes_38 4 rfl ?_
    refine j_iald C d7_reachableOnes_40 2 rfl (fun x12 => ?_)
    refine j_istore C d7_reachableOnes_41 (by decide) (lv' := [(7, .int x12), (1, .ref h_p1), (2, .int v10.1), (4, .int v3.2.2), (5, .int v3.1), (6, .int v10.2)]) rfl ?_
    refine j_iload C d7_reachableOnes_43 2 rfl ?_
    refine j_iload C d7_reachableOnes_44 0 rfl ?_
    refine j_callSI0 (As := [.int x12]) C d7_reachableOnes_46 ms7_57 (kX6_leftOf _ _ tc x12) ⟨rfl, rfl, Nat.le_of_ble_eq_true rfl, Nat.le_of_ble_eq_true rfl⟩ rfl [] rfl rfl rfl (Nat.le_of_ble_eq_true rfl) (fun x13 => ?_)
    refine j_callNI0 (As := [.int v10.1, .int x13]) C d7_reachableOnes_49 mn7_31 (kX11_bit _ _ tc v10.1 x13) ⟨rfl, rfl, Nat.le_of_ble_eq_true rfl, Nat.le_of_ble_eq_true rfl⟩ rfl [] rfl rfl rfl (Nat.le_of_ble_eq_true rfl) (fun x14 => ?_)
    refine j_const C d7_reachableOnes_52 ?_
    refine j_join 64 (fun v15 => [(h_, .inr (7, [g_nullable, g_first, g_follow, g_begins])), (h_p1, .inr (6, [.ref h_p1_codes, .int c_p1_count])), (h_p1_codes, .inl (tc.1, 24, .inl c_p1_codes))]) (fun v15 => [(1, .ref h_p1), (2, .int v15), (4, .int v3.2.2), (5, .int v3.1), (6, .int v10.2)]) (fun v15 => []) (fun v15 => ?_) (fun k17 hk17 => ?_)
    · refine j_iincN C (fun x16 => [(6, .int x16), (1, .ref h_p1), (2, .int v15), (4, .int v3.2.2), (5, .int v3.1)]) d7_reachableOnes_64 4 rfl (by decide +kernel) (by decide) (fun _ => rfl) (fun x16 => ?_)
      refine j_goto C d7_reachableOnes_67 ?_
      exact j_sub [1, 2, 3, 4, 0] rfl (hrc11 _)
    · refine j_icmp_ne C d7_reachableOnes_53 ?_ ?_
      · exact j_sub [1, 2, 3, 4, 5] rfl (hk17 _)
      · refine j_iload C d7_reachableOnes_56 2 rfl ?_
        refine j_iload C d7_reachableOnes_57 0 rfl ?_
        refine j_callSI0 (As := [.int x12]) C d7_reachableOnes_59 ms7_80 (kX6_nonterminalsIn _ _ tc N x12) ⟨rfl, rfl, Nat.le_of_ble_eq_true rfl, Nat.le_of_ble_eq_true rfl⟩ rfl [] rfl rfl rfl (Nat.le_of_ble_eq_true rfl) (fun x18 => ?_)
        refine j_ior C d7_reachableOnes_62 ?_
        refine j_leti (fun x19 => ?_)
        refine j_istore C d7_reachableOnes_63 (by decide) (lv' := [(2, .int x19), (7, .int x12), (1, .ref h_p1), (4, .int v3.2.2), (5, .int v3.1), (6, .int v10.2)]) rfl ?_
        exact j_sub [2, 0, 3, 4, 5] rfl (hk17 _)

set_option maxHeartbeats 4000000 in
set_option maxRecDepth 100000 in
theorem wX7_reachableOnes_7 {X : jC} {tc : jTC} (C : jx X cX7_reachableOnes 8 RX7 (some .int) tc ({ frames := 2, cells := 0, slots := 0, locals := 44 } : Room)) (N : Nat) (h_ h_p1 h_p1_codes : Nat) (g_nullable g_first g_follow g_begins : Value) (c_p1_codes : (Nat → Int32)) (c_p1_count : Int32) (k2 : (Int32 → Option (Int32))) (hk2 : ∀ w21 : Int32, jo X 8 (0, 0) (jQI0 X [(h_, .inr (7, [g_nullable, g_first, g_follow, g_begins])), (h_p1, .inr (6, [.ref h_p1_codes, .int c_p1_count])), (h_p1_codes, .inl (tc.1, 24, .inl c_p1_codes))]) (k2 w21) [(h_, .inr (7, [g_nullable, g_first, g_follow, g_begins])), (h_p1, .inr (6, [.ref h_p1_codes, .int c_p1_count])), (h_p1_codes, .inl (tc.1, 24, .inl c_p1_codes))] 88 [(2, .int w21)] []) (rc4 : Int32 × Int32 × Int32 → Option (Int32)) (hrc4 : ∀ v3 : Int32 × Int32 × Int32, jo X 8 (0, 0) (jQI0 X [(h_, .inr (7, [g_nullable, g_first, g_follow, g_begins])), (h_p1, .inr (6, [.ref h_p1_codes, .int c_p1_count])), (h_p1_codes, .inl (tc.1, 24, .inl c_p1_codes))]) (rc4 v3) [(h_, .inr (7, [g_nullable, g_first, g_follow, g_begins])), (h_p1, .inr (6, [.ref h_p1_codes, .int c_p1_count])), (h_p1_codes, .inl (tc.1, 24, .inl c_p1_codes))] 7 [(1, .ref h_p1), (2, .int v3.1), (3, .int v3.2.1), (4, .int v3.2.2)] []) (v3 : Int32 × Int32 × Int32) : jo X 8 (0, 0) (jQI0 X [(h_, .inr (7, [g_nullable, g_first, g_follow, g_begins])), (h_p1, .inr (6, [.ref h_p1_codes, .int c_p1_count])), (h_p1_codes, .inl (tc.1, 24, .inl c_p1_codes))]) (bX7_reachableOnes_7 N c_p1_codes c_p1_count k2 rc4 v3) [(h_, .inr (7, [g_nullable, g_first, g_follow, g_begins])), (h_p1, .inr (6, [.ref h_p1_codes, .int c_p1_count])), (h_p1_codes, .inl (tc.1, 24, .inl c_p1_codes))] 7 [(1, .ref h_p1), (2, .int v3.1), (3, .int v3.2.1), (4, .int v3.2.2)] [] := by
  unfold bX7_reachableOnes_7
  refine j_iload C d7_reachableOnes_7 3 rfl ?_
  refine j_const C d7_reachableOnes_9 ?_
  refine j_icmp_ge C d7_reachableOnes_12 ?_ ?_
  · exact j_sub [1] rfl (hk2 _)
  · refine j_iload C d7_reachableOnes_15 2 rfl ?_
    refine j_if_eq C d7_reachableOnes_16 ?_ ?_
    · exact j_sub [1] rfl (hk2 _)
    · refine j_iload C d7_reachableOnes_19 1 rfl ?_
      refine j_istore C d7_reachableOnes_20 (by decide) (lv' := [(5, .int v3.1), (1, .ref h_p1), (2, .int v3.1), (3, .int v3.2.1), (4, .int v3.2.2)]) rfl ?_
      refine j_const C d7_reachableOnes_22 ?_
      refine j_istore C d7_reachableOnes_23 (by decide) (lv' := [(6, .int 0), (5, .int v3.1), (1, .ref h_p1), (2, .int v3.1), (3, .int v3.2.1), (4, .int v3.2.2)]) rfl ?_
      refine j_join 70 (fun v5 => [(h_, .inr (7, [g_nullable, g_first, g_follow, g_begins])), (h_p1, .inr (6, [.ref h_p1_codes, .int c_p1_count])), (h_p1_codes, .inl (tc.1, 24, .inl c_p1_codes))]) (fun v5 => [(1, .ref h_p1), (2, .int v5), (4, .int v3.2.2), (5, .int v3.1)]) (fun v5 => []) (fun v5 => ?_) (fun k9 hk9 => ?_)
      · refine j_iload C d7_reachableOnes_70 1 rfl ?_
        refine j_iload C d7_reachableOnes_71 3 rfl ?_
        refine j_join 81 (fun v6 => [(h_, .inr (7, [g_nullable, g_first, g_follow, g_begins])), (h_p1, .inr (6, [.ref h_p1_codes, .int c_p1_count])), (h_p1_codes, .inl (tc.1, 24, .inl c_p1_codes))]) (fun v6 => [(1, .ref h_p1), (2, .int v5), (4, .int v3.2.2)]) (fun v6 => [.int v6]) (fun v6 => ?_) (fun k8 hk8 => ?_)
        · refine j_istore C d7_reachableOnes_81 (by decide) (lv' := [(3, .int v6), (1, .ref h_p1), (2, .int v5), (4, .int v3.2.2)]) rfl ?_
          refine j_iincN C (fun x7 => [(4, .int x7), (3, .int v6), (1, .ref h_p1), (2, .int v5)]) d7_reachableOnes_82 3 rfl (by decide +kernel) (by decide) (fun _ => rfl) (fun x7 => ?_)
          refine j_goto C d7_reachableOnes_85 ?_
          exact j_sub [2, 3, 1, 0] rfl (hrc4 _)
        · refine j_icmp_eq C d7_reachableOnes_73 ?_ ?_
          · refine j_const C d7_reachableOnes_80 ?_
            exact j_sub [0, 1, 2] rfl (hk8 _)
          · refine j_const C d7_reachableOnes_76 ?_
            refine j_goto C d7_reachableOnes_77 ?_
            exact j_sub [0, 1, 2] rfl (hk8 _)
      · exact j_sub [2, 3, 5, 1, 0] rfl (j_loop (fun v10 => [(h_, .inr (7, [g_nullable, g_first, g_follow, g_begins])), (h_p1, .inr (6, [.ref h_p1_codes, .int c_p1_count])), (h_p1_codes, .inl (tc.1, 24, .inl c_p1_codes))]) (fun v10 => [(1, .ref h_p1), (2, .int v10.1), (4, .int v3.2.2), (5, .int v3.1), (6, .int v10.2)]) (fun rc11 hrc11 v10 => wX7_reachableOnes_25 C N h_ h_p1 h_p1_codes g_nullable g_first g_follow g_begins c_p1_codes c_p1_count v3 k9 hk9 rc11 hrc11 v10) N _)

set_option maxHeartbeats 4000000 in
set_option maxRecDepth 100000 in
theorem kX7_reachableOnes (l : Launch) (D : va_G) (tc : jTC) (N : Nat) (h_ h_p1 h_p1_codes : Nat) (g_nullable g_first g_follow g_begins : Value) (c_p1_codes : (Nat → Int32)) (c_p1_count : Int32) : ctI0 l D tc yX7_reachableOnes (Cond.code yX7_reachableOnes cX7_reachableOnes 8 (some .int) :: jtb) ({ frames := 2, cells := 0, slots := 0, locals := 44 } : Room) [.ref h_, .ref h_p1] [(h_, .inr (7, [g_nullable, g_first, g_follow, g_begins])), (h_p1, .inr (6, [.ref h_p1_codes, .int c_p1_count])), (h_p1_codes, .inl (tc.1, 24, .inl c_p1_codes))] (fX7_reachableOnes N c_p1_codes c_p1_count) := by
  refine ctI0_of (lv0 := [(0, .ref h_), (1, .ref h_p1)]) (by decide +kernel) (Nat.le_of_ble_eq_true rfl) rfl (fun X C => ?_)
  unfold fX7_reachableOnes
  refine j_const C d7_reachableOnes_0 ?_
  refine j_istore C d7_reachableOnes_1 (by decide) (lv' := [(2, .int 1), (0, .ref h_), (1, .ref h_p1)]) rfl ?_
  refine j_const C d7_reachableOnes_2 ?_
  refine j_istore C d7_reachableOnes_3 (by decide) (lv' := [(3, .int 1), (2, .int 1), (0, .ref h_), (1, .ref h_p1)]) rfl ?_
  refine j_const C d7_reachableOnes_4 ?_
  refine j_istore C d7_reachableOnes_5 (by decide) (lv' := [(4, .int 0), (3, .int 1), (2, .int 1), (0, .ref h_), (1, .ref h_p1)]) rfl ?_
  refine j_join 88 (fun v1 => [(h_, .inr (7, [g_nullable, g_first, g_follow, g_begins])), (h_p1, .inr (6, [.ref h_p1_codes, .int c_p1_count])), (h_p1_codes, .inl (tc.1, 24, .inl c_p1_codes))]) (fun v1 => [(2, .int v1)]) (fun v1 => []) (fun v1 => ?_) (fun k2 hk2 => ?_)
  · refine j_iload C d7_reachableOnes_88 0 rfl ?_
    exact j_iret0 C d7_reachableOnes_89
  · exact j_sub [4, 2, 1, 0] rfl (j_loop (fun v3 => [(h_, .inr (7, [g_nullable, g_first, g_follow, g_begins])), (h_p1, .inr (6, [.ref h_p1_codes, .int c_p1_count])), (h_p1_codes, .inl (tc.1, 24, .inl c_p1_codes))]) (fun v3 => [(1, .ref h_p1), (2, .int v3.1), (3, .int v3.2.1), (4, .int v3.2.2)]) (fun rc4 hrc4 v3 => wX7_reachableOnes_7 C N h_ h_p1 h_p1_codes g_nullable g_first g_follow g_begins c_p1_codes c_p1_count k2 hk2 rc4 hrc4 v3) N _)

theorem d7_nonterminalsThatBegin_0 : jdk cX7_nonterminalsThatBegin 0 0 1 := Or.inl ⟨0, by decide +kernel⟩
theorem d7_nonterminalsThatBegin_1 : jds cX7_nonterminalsThatBegin 1 2 2 := Or.inl ⟨2, by decide +kernel⟩
theorem d7_nonterminalsThatBegin_2 : jdk cX7_nonterminalsThatBegin 2 0 3 := Or.inl ⟨0, by decide +kernel⟩
theorem d7_nonterminalsThatBegin_3 : jds cX7_nonterminalsThatBegin 3 3 4 := Or.inl ⟨3, by decide +kernel⟩
theorem d7_nonterminalsThatBegin_4 : jdi cX7_nonterminalsThatBegin 4 3 5 := Or.inl ⟨3, by decide +kernel⟩
theorem d7_nonterminalsThatBegin_5 : jdi cX7_nonterminalsThatBegin 5 1 6 := Or.inl ⟨1, by decide +kernel⟩
theorem d7_nonterminalsThatBegin_6 : jd cX7_nonterminalsThatBegin 6 (.invokestatic 68) 3 9 := by decide +kernel
theorem d7_nonterminalsThatBegin_9 : jdb cX7_nonterminalsThatBegin 9 (.if_icmp .ge 44) 44 53 12 := by decide +kernel
theorem d7_nonterminalsThatBegin_12 : jdi cX7_nonterminalsThatBegin 12 1 13 := Or.inl ⟨1, by decide +kernel⟩
theorem d7_nonterminalsThatBegin_13 : jdi cX7_nonterminalsThatBegin 13 3 14 := Or.inl ⟨3, by decide +kernel⟩
theorem d7_nonterminalsThatBegin_14 : jd cX7_nonterminalsThatBegin 14 (.invokestatic 71) 3 17 := by decide +kernel
theorem d7_nonterminalsThatBegin_17 : jds cX7_nonterminalsThatBegin 17 4 19 := Or.inr (by decide +kernel)
theorem d7_nonterminalsThatBegin_19 : jdi cX7_nonterminalsThatBegin 19 4 21 := Or.inr (by decide +kernel)
theorem d7_nonterminalsThatBegin_21 : jdk cX7_nonterminalsThatBegin 21 10 23 := Or.inr (Or.inl ⟨10, by decide +kernel⟩)
theorem d7_nonterminalsThatBegin_23 : jdb cX7_nonterminalsThatBegin 23 (.if_icmp .lt 13) 13 36 26 := by decide +kernel
theorem d7_nonterminalsThatBegin_26 : jdi cX7_nonterminalsThatBegin 26 2 27 := Or.inl ⟨2, by decide +kernel⟩
theorem d7_nonterminalsThatBegin_27 : jdk cX7_nonterminalsThatBegin 27 1 28 := Or.inl ⟨1, by decide +kernel⟩
theorem d7_nonterminalsThatBegin_28 : jdi cX7_nonterminalsThatBegin 28 4 30 := Or.inr (by decide +kernel)
theorem d7_nonterminalsThatBegin_30 : jdk cX7_nonterminalsThatBegin 30 10 32 := Or.inr (Or.inl ⟨10, by decide +kernel⟩)
theorem d7_nonterminalsThatBegin_32 : jd cX7_nonterminalsThatBegin 32 (.isub) 1 33 := by decide +kernel
theorem d7_nonterminalsThatBegin_33 : jd cX7_nonterminalsThatBegin 33 (.ishl) 1 34 := by decide +kernel
theorem d7_nonterminalsThatBegin_34 : jd cX7_nonterminalsThatBegin 34 (.ior) 1 35 := by decide +kernel
theorem d7_nonterminalsThatBegin_35 : jds cX7_nonterminalsThatBegin 35 2 36 := Or.inl ⟨2, by decide +kernel⟩
theorem d7_nonterminalsThatBegin_36 : jda cX7_nonterminalsThatBegin 36 0 37 := Or.inl ⟨0, by decide +kernel⟩
theorem d7_nonterminalsThatBegin_37 : jdi cX7_nonterminalsThatBegin 37 4 39 := Or.inr (by decide +kernel)
theorem d7_nonterminalsThatBegin_39 : jd cX7_nonterminalsThatBegin 39 (.invokevirtual 74) 3 42 := by decide +kernel
theorem d7_nonterminalsThatBegin_42 : jdb cX7_nonterminalsThatBegin 42 (.ifCond .ne 5) 5 47 45 := by decide +kernel
theorem d7_nonterminalsThatBegin_45 : jdi cX7_nonterminalsThatBegin 45 2 46 := Or.inl ⟨2, by decide +kernel⟩
theorem d7_nonterminalsThatBegin_46 : decode cX7_nonterminalsThatBegin 46 = .ok (.ireturn, 1) := by decide +kernel
theorem d7_nonterminalsThatBegin_47 : jd cX7_nonterminalsThatBegin 47 (.iinc 3 1) 3 50 := by decide +kernel
theorem d7_nonterminalsThatBegin_50 : jdb cX7_nonterminalsThatBegin 50 (.goto (-46)) (-46) 4 53 := by decide +kernel
theorem d7_nonterminalsThatBegin_53 : jdi cX7_nonterminalsThatBegin 53 2 54 := Or.inl ⟨2, by decide +kernel⟩
theorem d7_nonterminalsThatBegin_54 : decode cX7_nonterminalsThatBegin 54 = .ok (.ireturn, 1) := by decide +kernel
set_option maxHeartbeats 4000000 in
set_option maxRecDepth 100000 in
theorem wX7_nonterminalsThatBegin_4 {X : jC} {tc : jTC} (C : jx X cX7_nonterminalsThatBegin 5 RX7 (some .int) tc ({ frames := 2, cells := 0, slots := 0, locals := 42 } : Room)) (h_ : Nat) (g_first g_follow g_begins : Value) (p1 : Int32) (c_nullable : Int32) (k2 : (Int32 → Option (Int32))) (hk2 : ∀ w12 : Int32, jo X 5 (0, 0) (jQI0 X [(h_, .inr (7, [.int c_nullable, g_first, g_follow, g_begins]))]) (k2 w12) [(h_, .inr (7, [.int c_nullable, g_first, g_follow, g_begins]))] 53 [(2, .int w12)] []) (rc4 : Int32 × Int32 → Option (Int32)) (hrc4 : ∀ v3 : Int32 × Int32, jo X 5 (0, 0) (jQI0 X [(h_, .inr (7, [.int c_nullable, g_first, g_follow, g_begins]))]) (rc4 v3) [(h_, .inr (7, [.int c_nullable, g_first, g_follow, g_begins]))] 4 [(0, .ref h_), (1, .int p1), (2, .int v3.1), (3, .int v3.2)] []) (v3 : Int32 × Int32) : jo X 5 (0, 0) (jQI0 X [(h_, .inr (7, [.int c_nullable, g_first, g_follow, g_begins]))]) (bX7_nonterminalsThatBegin_4 p1 c_nullable k2 rc4 v3) [(h_, .inr (7, [.int c_nullable, g_first, g_follow, g_begins]))] 4 [(0, .ref h_), (1, .int p1), (2, .int v3.1), (3, .int v3.2)] [] := by
  unfold bX7_nonterminalsThatBegin_4
  refine j_iload C d7_nonterminalsThatBegin_4 3 rfl ?_
  refine j_iload C d7_nonterminalsThatBegin_5 1 rfl ?_
  refine j_callSI0 (As := [.int p1]) C d7_nonterminalsThatBegin_6 ms7_68 (kX6_lengthOf _ _ tc p1) ⟨rfl, rfl, Nat.le_of_ble_eq_true rfl, Nat.le_of_ble_eq_true rfl⟩ rfl [] rfl rfl rfl (Nat.le_of_ble_eq_true rfl) (fun x5 => ?_)
  refine j_icmp_ge C d7_nonterminalsThatBegin_9 ?_ ?_
  · exact j_sub [2] rfl (hk2 _)
  · refine j_iload C d7_nonterminalsThatBegin_12 1 rfl ?_
    refine j_iload C d7_nonterminalsThatBegin_13 3 rfl ?_
    refine j_callSI0 (As := [.int p1, .int v3.2]) C d7_nonterminalsThatBegin_14 ms7_71 (kX6_symbolOf _ _ tc p1 v3.2) ⟨rfl, rfl, Nat.le_of_ble_eq_true rfl, Nat.le_of_ble_eq_true rfl⟩ rfl [] rfl rfl rfl (Nat.le_of_ble_eq_true rfl) (fun x6 => ?_)
    refine j_istore C d7_nonterminalsThatBegin_17 (by decide) (lv' := [(4, .int x6), (0, .ref h_), (1, .int p1), (2, .int v3.1), (3, .int v3.2)]) rfl ?_
    refine j_iload C d7_nonterminalsThatBegin_19 0 rfl ?_
    refine j_const C d7_nonterminalsThatBegin_21 ?_
    refine j_join 36 (fun v7 => [(h_, .inr (7, [.int c_nullable, g_first, g_follow, g_begins]))]) (fun v7 => [(0, .ref h_), (1, .int p1), (2, .int v7), (3, .int v3.2), (4, .int x6)]) (fun v7 => []) (fun v7 => ?_) (fun k10 hk10 => ?_)
    · refine j_aload C d7_nonterminalsThatBegin_36 0 rfl ?_
      refine j_iload C d7_nonterminalsThatBegin_37 4 rfl ?_
      refine j_callVI0 (As := [.int x6]) C d7_nonterminalsThatBegin_39 mv7_74 (kX7_isNullable _ _ tc h_ g_first g_follow g_begins c_nullable x6) ⟨rfl, rfl, Nat.le_of_ble_eq_true rfl, Nat.le_of_ble_eq_true rfl⟩ rfl 0 rfl [0] rfl rfl rfl (Nat.le_of_ble_eq_true rfl) (fun x8 => ?_)
      refine j_if_ne C d7_nonterminalsThatBegin_42 ?_ ?_
      · refine j_iincN C (fun x9 => [(3, .int x9), (0, .ref h_), (1, .int p1), (2, .int v7), (4, .int x6)]) d7_nonterminalsThatBegin_47 3 rfl (by decide +kernel) (by decide) (fun _ => rfl) (fun x9 => ?_)
        refine j_goto C d7_nonterminalsThatBegin_50 ?_
        exact j_sub [1, 2, 3, 0] rfl (hrc4 _)
      · refine j_iload C d7_nonterminalsThatBegin_45 2 rfl ?_
        exact j_iret0 C d7_nonterminalsThatBegin_46
    · refine j_icmp_lt C d7_nonterminalsThatBegin_23 ?_ ?_
      · exact j_sub [1, 2, 3, 4, 0] rfl (hk10 _)
      · refine j_iload C d7_nonterminalsThatBegin_26 3 rfl ?_
        refine j_const C d7_nonterminalsThatBegin_27 ?_
        refine j_iload C d7_nonterminalsThatBegin_28 0 rfl ?_
        refine j_const C d7_nonterminalsThatBegin_30 ?_
        refine j_isub C d7_nonterminalsThatBegin_32 ?_
        refine j_ishl C d7_nonterminalsThatBegin_33 ?_
        refine j_ior C d7_nonterminalsThatBegin_34 ?_
        refine j_leti (fun x11 => ?_)
        refine j_istore C d7_nonterminalsThatBegin_35 (by decide) (lv' := [(2, .int x11), (4, .int x6), (0, .ref h_), (1, .int p1), (3, .int v3.2)]) rfl ?_
        exact j_sub [2, 3, 0, 4, 1] rfl (hk10 _)

set_option maxHeartbeats 4000000 in
set_option maxRecDepth 100000 in
theorem kX7_nonterminalsThatBegin (l : Launch) (D : va_G) (tc : jTC) (N : Nat) (h_ : Nat) (g_first g_follow g_begins : Value) (c_nullable : Int32) (p1 : Int32) : ctI0 l D tc yX7_nonterminalsThatBegin (Cond.code yX7_nonterminalsThatBegin cX7_nonterminalsThatBegin 5 (some .int) :: jtb) ({ frames := 2, cells := 0, slots := 0, locals := 42 } : Room) [.ref h_, .int p1] [(h_, .inr (7, [.int c_nullable, g_first, g_follow, g_begins]))] (fX7_nonterminalsThatBegin N c_nullable p1) := by
  refine ctI0_of (lv0 := [(0, .ref h_), (1, .int p1)]) (by decide +kernel) (Nat.le_of_ble_eq_true rfl) rfl (fun X C => ?_)
  unfold fX7_nonterminalsThatBegin
  refine j_const C d7_nonterminalsThatBegin_0 ?_
  refine j_istore C d7_nonterminalsThatBegin_1 (by decide) (lv' := [(2, .int 0), (0, .ref h_), (1, .int p1)]) rfl ?_
  refine j_const C d7_nonterminalsThatBegin_2 ?_
  refine j_istore C d7_nonterminalsThatBegin_3 (by decide) (lv' := [(3, .int 0), (2, .int 0), (0, .ref h_), (1, .int p1)]) rfl ?_
  refine j_join 53 (fun v1 => [(h_, .inr (7, [.int c_nullable, g_first, g_follow, g_begins]))]) (fun v1 => [(2, .int v1)]) (fun v1 => []) (fun v1 => ?_) (fun k2 hk2 => ?_)
  · refine j_iload C d7_nonterminalsThatBegin_53 0 rfl ?_
    exact j_iret0 C d7_nonterminalsThatBegin_54
  · exact j_sub [2, 3, 1, 0] rfl (j_loop (fun v3 => [(h_, .inr (7, [.int c_nullable, g_first, g_follow, g_begins]))]) (fun v3 => [(0, .ref h_), (1, .int p1), (2, .int v3.1), (3, .int v3.2)]) (fun rc4 hrc4 v3 => wX7_nonterminalsThatBegin_4 C h_ g_first g_follow g_begins p1 c_nullable k2 hk2 rc4 hrc4 v3) N _)

theorem d7_closeBegins_0 : jdk cX7_closeBegins 0 0 1 := Or.inl ⟨0, by decide +kernel⟩
theorem d7_closeBegins_1 : jds cX7_closeBegins 1 1 2 := Or.inl ⟨1, by decide +kernel⟩
theorem d7_closeBegins_2 : jdi cX7_closeBegins 2 1 3 := Or.inl ⟨1, by decide +kernel⟩
theorem d7_closeBegins_3 : jdk cX7_closeBegins 3 8 5 := Or.inr (Or.inl ⟨8, by decide +kernel⟩)
theorem d7_closeBegins_5 : jdb cX7_closeBegins 5 (.if_icmp .ge 52) 52 57 8 := by decide +kernel
theorem d7_closeBegins_8 : jdk cX7_closeBegins 8 0 9 := Or.inl ⟨0, by decide +kernel⟩
theorem d7_closeBegins_9 : jds cX7_closeBegins 9 2 10 := Or.inl ⟨2, by decide +kernel⟩
theorem d7_closeBegins_10 : jdi cX7_closeBegins 10 2 11 := Or.inl ⟨2, by decide +kernel⟩
theorem d7_closeBegins_11 : jdk cX7_closeBegins 11 8 13 := Or.inr (Or.inl ⟨8, by decide +kernel⟩)
theorem d7_closeBegins_13 : jdb cX7_closeBegins 13 (.if_icmp .ge 38) 38 51 16 := by decide +kernel
theorem d7_closeBegins_16 : jda cX7_closeBegins 16 0 17 := Or.inl ⟨0, by decide +kernel⟩
theorem d7_closeBegins_17 : jd cX7_closeBegins 17 (.getfield 18) 3 20 := by decide +kernel
theorem d7_closeBegins_20 : jdi cX7_closeBegins 20 2 21 := Or.inl ⟨2, by decide +kernel⟩
theorem d7_closeBegins_21 : jd cX7_closeBegins 21 (.iaload) 1 22 := by decide +kernel
theorem d7_closeBegins_22 : jdi cX7_closeBegins 22 1 23 := Or.inl ⟨1, by decide +kernel⟩
theorem d7_closeBegins_23 : jd cX7_closeBegins 23 (.invokestatic 31) 3 26 := by decide +kernel
theorem d7_closeBegins_26 : jdk cX7_closeBegins 26 1 27 := Or.inl ⟨1, by decide +kernel⟩
theorem d7_closeBegins_27 : jdb cX7_closeBegins 27 (.if_icmp .ne 18) 18 45 30 := by decide +kernel
theorem d7_closeBegins_30 : jda cX7_closeBegins 30 0 31 := Or.inl ⟨0, by decide +kernel⟩
theorem d7_closeBegins_31 : jd cX7_closeBegins 31 (.getfield 18) 3 34 := by decide +kernel
theorem d7_closeBegins_34 : jdi cX7_closeBegins 34 2 35 := Or.inl ⟨2, by decide +kernel⟩
theorem d7_closeBegins_35 : jd cX7_closeBegins 35 (.dup2) 1 36 := by decide +kernel
theorem d7_closeBegins_36 : jd cX7_closeBegins 36 (.iaload) 1 37 := by decide +kernel
theorem d7_closeBegins_37 : jda cX7_closeBegins 37 0 38 := Or.inl ⟨0, by decide +kernel⟩
theorem d7_closeBegins_38 : jd cX7_closeBegins 38 (.getfield 18) 3 41 := by decide +kernel
theorem d7_closeBegins_41 : jdi cX7_closeBegins 41 1 42 := Or.inl ⟨1, by decide +kernel⟩
theorem d7_closeBegins_42 : jd cX7_closeBegins 42 (.iaload) 1 43 := by decide +kernel
theorem d7_closeBegins_43 : jd cX7_closeBegins 43 (.ior) 1 44 := by decide +kernel
theorem d7_closeBegins_44 : jd cX7_closeBegins 44 (.iastore) 1 45 := by decide +kernel
theorem d7_closeBegins_45 : jd cX7_closeBegins 45 (.iinc 2 1) 3 48 := by decide +kernel
theorem d7_closeBegins_48 : jdb cX7_closeBegins 48 (.goto (-38)) (-38) 10 51 := by decide +kernel
theorem d7_closeBegins_51 : jd cX7_closeBegins 51 (.iinc 1 1) 3 54 := by decide +kernel
theorem d7_closeBegins_54 : jdb cX7_closeBegins 54 (.goto (-52)) (-52) 2 57 := by decide +kernel
theorem d7_closeBegins_57 : decode cX7_closeBegins 57 = .ok (.return_, 1) := by decide +kernel
set_option maxHeartbeats 4000000 in
set_option maxRecDepth 100000 in
theorem wX7_closeBegins_10 {X : jC} {tc : jTC} (C : jx X cX7_closeBegins 3 RX7 none tc ({ frames := 1, cells := 0, slots := 0, locals := 21 } : Room)) (h_ h_begins : Nat) (g_nullable g_first g_follow : Value) (v3 : Int32 × (Nat → Int32)) (k7 : ((Nat → Int32) → Option ((Nat → Int32)))) (hk7 : ∀ w18 : (Nat → Int32), jo X 3 (0, 0) (jQV X (fun (u : (Nat → Int32)) => [(h_, .inr (7, [g_nullable, g_first, g_follow, .ref h_begins])), (h_begins, .inl (tc.1, 8, .inl u))])) (k7 w18) [(h_, .inr (7, [g_nullable, g_first, g_follow, .ref h_begins])), (h_begins, .inl (tc.1, 8, .inl w18))] 51 [(0, .ref h_), (1, .int v3.1)] []) (rc9 : Int32 × (Nat → Int32) → Option ((Nat → Int32))) (hrc9 : ∀ v8 : Int32 × (Nat → Int32), jo X 3 (0, 0) (jQV X (fun (u : (Nat → Int32)) => [(h_, .inr (7, [g_nullable, g_first, g_follow, .ref h_begins])), (h_begins, .inl (tc.1, 8, .inl u))])) (rc9 v8) [(h_, .inr (7, [g_nullable, g_first, g_follow, .ref h_begins])), (h_begins, .inl (tc.1, 8, .inl v8.2))] 10 [(0, .ref h_), (1, .int v3.1), (2, .int v8.1)] []) (v8 : Int32 × (Nat → Int32)) : jo X 3 (0, 0) (jQV X (fun (u : (Nat → Int32)) => [(h_, .inr (7, [g_nullable, g_first, g_follow, .ref h_begins])), (h_begins, .inl (tc.1, 8, .inl u))])) (bX7_closeBegins_10 v3 k7 rc9 v8) [(h_, .inr (7, [g_nullable, g_first, g_follow, .ref h_begins])), (h_begins, .inl (tc.1, 8, .inl v8.2))] 10 [(0, .ref h_), (1, .int v3.1), (2, .int v8.1)] [] := by
  unfold bX7_closeBegins_10
  refine j_iload C d7_closeBegins_10 2 rfl ?_
  refine j_const C d7_closeBegins_11 ?_
  refine j_icmp_ge C d7_closeBegins_13 ?_ ?_
  · exact j_sub [0, 1] rfl (hk7 _)
  · refine j_aload C d7_closeBegins_16 0 rfl ?_
    refine j_get C d7_closeBegins_17 fl7_18 0 rfl rfl ?_
    refine j_iload C d7_closeBegins_20 2 rfl ?_
    refine j_iald C d7_closeBegins_21 1 rfl (fun x10 => ?_)
    refine j_iload C d7_closeBegins_22 1 rfl ?_
    refine j_callNI0 (As := [.int x10, .int v3.1]) C d7_closeBegins_23 mn7_31 (kX11_bit _ _ tc x10 v3.1) ⟨rfl, rfl, Nat.le_of_ble_eq_true rfl, Nat.le_of_ble_eq_true rfl⟩ rfl [] rfl rfl rfl (Nat.le_of_ble_eq_true rfl) (fun x11 => ?_)
    refine j_const C d7_closeBegins_26 ?_
    refine j_join 45 (fun v12 => [(h_, .inr (7, [g_nullable, g_first, g_follow, .ref h_begins])), (h_begins, .inl (tc.1, 8, .inl v12))]) (fun v12 => [(0, .ref h_), (1, .int v3.1), (2, .int v8.1)]) (fun v12 => []) (fun v12 => ?_) (fun k14 hk14 => ?_)
    · refine j_iincN C (fun x13 => [(2, .int x13), (0, .ref h_), (1, .int v3.1)]) d7_closeBegins_45 2 rfl (by decide +kernel) (by decide) (fun _ => rfl) (fun x13 => ?_)
      refine j_goto C d7_closeBegins_48 ?_
      exact j_sub [1, 2, 0] rfl (hrc9 _)
    · refine j_icmp_ne C d7_closeBegins_27 ?_ ?_
      · exact hk14 _
      · refine j_aload C d7_closeBegins_30 0 rfl ?_
        refine j_get C d7_closeBegins_31 fl7_18 0 rfl rfl ?_
        refine j_iload C d7_closeBegins_34 2 rfl ?_
        refine j_dup2 C d7_closeBegins_35 rfl rfl ?_
        refine j_iald C d7_closeBegins_36 1 rfl (fun x15 => ?_)
        refine j_aload C d7_closeBegins_37 0 rfl ?_
        refine j_get C d7_closeBegins_38 fl7_18 0 rfl rfl ?_
        refine j_iload C d7_closeBegins_41 1 rfl ?_
        refine j_iald C d7_closeBegins_42 1 rfl (fun x16 => ?_)
        refine j_ior C d7_closeBegins_43 ?_
        refine j_iast C (fun f17 => [(h_, .inr (7, [g_nullable, g_first, g_follow, .ref h_begins])), (h_begins, .inl (tc.1, 8, .inl f17))]) d7_closeBegins_44 1 rfl (fun _ => rfl) (fun f17 => ?_)
        exact hk14 _

set_option maxHeartbeats 4000000 in
set_option maxRecDepth 100000 in
theorem wX7_closeBegins_2 {X : jC} {tc : jTC} (C : jx X cX7_closeBegins 3 RX7 none tc ({ frames := 1, cells := 0, slots := 0, locals := 21 } : Room)) (N : Nat) (h_ h_begins : Nat) (g_nullable g_first g_follow : Value) (k2 : ((Nat → Int32) → Option ((Nat → Int32)))) (hk2 : ∀ w19 : (Nat → Int32), jo X 3 (0, 0) (jQV X (fun (u : (Nat → Int32)) => [(h_, .inr (7, [g_nullable, g_first, g_follow, .ref h_begins])), (h_begins, .inl (tc.1, 8, .inl u))])) (k2 w19) [(h_, .inr (7, [g_nullable, g_first, g_follow, .ref h_begins])), (h_begins, .inl (tc.1, 8, .inl w19))] 57 [] []) (rc4 : Int32 × (Nat → Int32) → Option ((Nat → Int32))) (hrc4 : ∀ v3 : Int32 × (Nat → Int32), jo X 3 (0, 0) (jQV X (fun (u : (Nat → Int32)) => [(h_, .inr (7, [g_nullable, g_first, g_follow, .ref h_begins])), (h_begins, .inl (tc.1, 8, .inl u))])) (rc4 v3) [(h_, .inr (7, [g_nullable, g_first, g_follow, .ref h_begins])), (h_begins, .inl (tc.1, 8, .inl v3.2))] 2 [(0, .ref h_), (1, .int v3.1)] []) (v3 : Int32 × (Nat → Int32)) : jo X 3 (0, 0) (jQV X (fun (u : (Nat → Int32)) => [(h_, .inr (7, [g_nullable, g_first, g_follow, .ref h_begins])), (h_begins, .inl (tc.1, 8, .inl u))])) (bX7_closeBegins_2 N k2 rc4 v3) [(h_, .inr (7, [g_nullable, g_first, g_follow, .ref h_begins])), (h_begins, .inl (tc.1, 8, .inl v3.2))] 2 [(0, .ref h_), (1, .int v3.1)] [] := by
  unfold bX7_closeBegins_2
  refine j_iload C d7_closeBegins_2 1 rfl ?_
  refine j_const C d7_closeBegins_3 ?_
  refine j_icmp_ge C d7_closeBegins_5 ?_ ?_
  · exact j_sub [] rfl (hk2 _)
  · refine j_const C d7_closeBegins_8 ?_
    refine j_istore C d7_closeBegins_9 (by decide) (lv' := [(2, .int 0), (0, .ref h_), (1, .int v3.1)]) rfl ?_
    refine j_join 51 (fun v5 => [(h_, .inr (7, [g_nullable, g_first, g_follow, .ref h_begins])), (h_begins, .inl (tc.1, 8, .inl v5))]) (fun v5 => [(0, .ref h_), (1, .int v3.1)]) (fun v5 => []) (fun v5 => ?_) (fun k7 hk7 => ?_)
    · refine j_iincN C (fun x6 => [(1, .int x6), (0, .ref h_)]) d7_closeBegins_51 1 rfl (by decide +kernel) (by decide) (fun _ => rfl) (fun x6 => ?_)
      refine j_goto C d7_closeBegins_54 ?_
      exact j_sub [1, 0] rfl (hrc4 _)
    · exact j_sub [1, 2, 0] rfl (j_loop (fun v8 => [(h_, .inr (7, [g_nullable, g_first, g_follow, .ref h_begins])), (h_begins, .inl (tc.1, 8, .inl v8.2))]) (fun v8 => [(0, .ref h_), (1, .int v3.1), (2, .int v8.1)]) (fun rc9 hrc9 v8 => wX7_closeBegins_10 C h_ h_begins g_nullable g_first g_follow v3 k7 hk7 rc9 hrc9 v8) N _)

set_option maxHeartbeats 4000000 in
set_option maxRecDepth 100000 in
theorem kX7_closeBegins (l : Launch) (D : va_G) (tc : jTC) (N : Nat) (h_ h_begins : Nat) (g_nullable g_first g_follow : Value) (c_begins : (Nat → Int32)) : ctV l D tc yX7_closeBegins (Cond.code yX7_closeBegins cX7_closeBegins 3 none :: jtb) ({ frames := 1, cells := 0, slots := 0, locals := 21 } : Room) [.ref h_] [(h_, .inr (7, [g_nullable, g_first, g_follow, .ref h_begins])), (h_begins, .inl (tc.1, 8, .inl c_begins))] (fX7_closeBegins N c_begins) (fun (u : (Nat → Int32)) => [(h_, .inr (7, [g_nullable, g_first, g_follow, .ref h_begins])), (h_begins, .inl (tc.1, 8, .inl u))]) := by
  refine ctV_of (lv0 := [(0, .ref h_)]) (by decide +kernel) (Nat.le_of_ble_eq_true rfl) rfl (fun X C => ?_)
  unfold fX7_closeBegins
  refine j_const C d7_closeBegins_0 ?_
  refine j_istore C d7_closeBegins_1 (by decide) (lv' := [(1, .int 0), (0, .ref h_)]) rfl ?_
  refine j_join 57 (fun v1 => [(h_, .inr (7, [g_nullable, g_first, g_follow, .ref h_begins])), (h_begins, .inl (tc.1, 8, .inl v1))]) (fun v1 => []) (fun v1 => []) (fun v1 => ?_) (fun k2 hk2 => ?_)
  · exact j_vret C d7_closeBegins_57 rfl
  · exact j_sub [1, 0] rfl (j_loop (fun v3 => [(h_, .inr (7, [g_nullable, g_first, g_follow, .ref h_begins])), (h_begins, .inl (tc.1, 8, .inl v3.2))]) (fun v3 => [(0, .ref h_), (1, .int v3.1)]) (fun rc4 hrc4 v3 => wX7_closeBegins_2 C N h_ h_begins g_nullable g_first g_follow k2 hk2 rc4 hrc4 v3) N _)

theorem d7_leftRecursiveOnes_0 : jdk cX7_leftRecursiveOnes 0 0 1 := Or.inl ⟨0, by decide +kernel⟩
theorem d7_leftRecursiveOnes_1 : jds cX7_leftRecursiveOnes 1 2 2 := Or.inl ⟨2, by decide +kernel⟩
theorem d7_leftRecursiveOnes_2 : jdi cX7_leftRecursiveOnes 2 2 3 := Or.inl ⟨2, by decide +kernel⟩
theorem d7_leftRecursiveOnes_3 : jdk cX7_leftRecursiveOnes 3 8 5 := Or.inr (Or.inl ⟨8, by decide +kernel⟩)
theorem d7_leftRecursiveOnes_5 : jdb cX7_leftRecursiveOnes 5 (.if_icmp .ge 16) 16 21 8 := by decide +kernel
theorem d7_leftRecursiveOnes_8 : jda cX7_leftRecursiveOnes 8 0 9 := Or.inl ⟨0, by decide +kernel⟩
theorem d7_leftRecursiveOnes_9 : jd cX7_leftRecursiveOnes 9 (.getfield 18) 3 12 := by decide +kernel
theorem d7_leftRecursiveOnes_12 : jdi cX7_leftRecursiveOnes 12 2 13 := Or.inl ⟨2, by decide +kernel⟩
theorem d7_leftRecursiveOnes_13 : jdk cX7_leftRecursiveOnes 13 0 14 := Or.inl ⟨0, by decide +kernel⟩
theorem d7_leftRecursiveOnes_14 : jd cX7_leftRecursiveOnes 14 (.iastore) 1 15 := by decide +kernel
theorem d7_leftRecursiveOnes_15 : jd cX7_leftRecursiveOnes 15 (.iinc 2 1) 3 18 := by decide +kernel
theorem d7_leftRecursiveOnes_18 : jdb cX7_leftRecursiveOnes 18 (.goto (-16)) (-16) 2 21 := by decide +kernel
theorem d7_leftRecursiveOnes_21 : jdk cX7_leftRecursiveOnes 21 0 22 := Or.inl ⟨0, by decide +kernel⟩
theorem d7_leftRecursiveOnes_22 : jds cX7_leftRecursiveOnes 22 2 23 := Or.inl ⟨2, by decide +kernel⟩
theorem d7_leftRecursiveOnes_23 : jdi cX7_leftRecursiveOnes 23 2 24 := Or.inl ⟨2, by decide +kernel⟩
theorem d7_leftRecursiveOnes_24 : jda cX7_leftRecursiveOnes 24 1 25 := Or.inl ⟨1, by decide +kernel⟩
theorem d7_leftRecursiveOnes_25 : jd cX7_leftRecursiveOnes 25 (.getfield 45) 3 28 := by decide +kernel
theorem d7_leftRecursiveOnes_28 : jdb cX7_leftRecursiveOnes 28 (.if_icmp .ge 36) 36 64 31 := by decide +kernel
theorem d7_leftRecursiveOnes_31 : jda cX7_leftRecursiveOnes 31 0 32 := Or.inl ⟨0, by decide +kernel⟩
theorem d7_leftRecursiveOnes_32 : jd cX7_leftRecursiveOnes 32 (.getfield 18) 3 35 := by decide +kernel
theorem d7_leftRecursiveOnes_35 : jda cX7_leftRecursiveOnes 35 1 36 := Or.inl ⟨1, by decide +kernel⟩
theorem d7_leftRecursiveOnes_36 : jd cX7_leftRecursiveOnes 36 (.getfield 50) 3 39 := by decide +kernel
theorem d7_leftRecursiveOnes_39 : jdi cX7_leftRecursiveOnes 39 2 40 := Or.inl ⟨2, by decide +kernel⟩
theorem d7_leftRecursiveOnes_40 : jd cX7_leftRecursiveOnes 40 (.iaload) 1 41 := by decide +kernel
theorem d7_leftRecursiveOnes_41 : jd cX7_leftRecursiveOnes 41 (.invokestatic 57) 3 44 := by decide +kernel
theorem d7_leftRecursiveOnes_44 : jd cX7_leftRecursiveOnes 44 (.dup2) 1 45 := by decide +kernel
theorem d7_leftRecursiveOnes_45 : jd cX7_leftRecursiveOnes 45 (.iaload) 1 46 := by decide +kernel
theorem d7_leftRecursiveOnes_46 : jda cX7_leftRecursiveOnes 46 0 47 := Or.inl ⟨0, by decide +kernel⟩
theorem d7_leftRecursiveOnes_47 : jda cX7_leftRecursiveOnes 47 1 48 := Or.inl ⟨1, by decide +kernel⟩
theorem d7_leftRecursiveOnes_48 : jd cX7_leftRecursiveOnes 48 (.getfield 50) 3 51 := by decide +kernel
theorem d7_leftRecursiveOnes_51 : jdi cX7_leftRecursiveOnes 51 2 52 := Or.inl ⟨2, by decide +kernel⟩
theorem d7_leftRecursiveOnes_52 : jd cX7_leftRecursiveOnes 52 (.iaload) 1 53 := by decide +kernel
theorem d7_leftRecursiveOnes_53 : jd cX7_leftRecursiveOnes 53 (.invokevirtual 83) 3 56 := by decide +kernel
theorem d7_leftRecursiveOnes_56 : jd cX7_leftRecursiveOnes 56 (.ior) 1 57 := by decide +kernel
theorem d7_leftRecursiveOnes_57 : jd cX7_leftRecursiveOnes 57 (.iastore) 1 58 := by decide +kernel
theorem d7_leftRecursiveOnes_58 : jd cX7_leftRecursiveOnes 58 (.iinc 2 1) 3 61 := by decide +kernel
theorem d7_leftRecursiveOnes_61 : jdb cX7_leftRecursiveOnes 61 (.goto (-38)) (-38) 23 64 := by decide +kernel
theorem d7_leftRecursiveOnes_64 : jda cX7_leftRecursiveOnes 64 0 65 := Or.inl ⟨0, by decide +kernel⟩
theorem d7_leftRecursiveOnes_65 : jd cX7_leftRecursiveOnes 65 (.invokevirtual 86) 3 68 := by decide +kernel
theorem d7_leftRecursiveOnes_68 : jdk cX7_leftRecursiveOnes 68 0 69 := Or.inl ⟨0, by decide +kernel⟩
theorem d7_leftRecursiveOnes_69 : jds cX7_leftRecursiveOnes 69 2 70 := Or.inl ⟨2, by decide +kernel⟩
theorem d7_leftRecursiveOnes_70 : jdk cX7_leftRecursiveOnes 70 0 71 := Or.inl ⟨0, by decide +kernel⟩
theorem d7_leftRecursiveOnes_71 : jds cX7_leftRecursiveOnes 71 3 72 := Or.inl ⟨3, by decide +kernel⟩
theorem d7_leftRecursiveOnes_72 : jdi cX7_leftRecursiveOnes 72 3 73 := Or.inl ⟨3, by decide +kernel⟩
theorem d7_leftRecursiveOnes_73 : jdk cX7_leftRecursiveOnes 73 8 75 := Or.inr (Or.inl ⟨8, by decide +kernel⟩)
theorem d7_leftRecursiveOnes_75 : jdb cX7_leftRecursiveOnes 75 (.if_icmp .ge 22) 22 97 78 := by decide +kernel
theorem d7_leftRecursiveOnes_78 : jdi cX7_leftRecursiveOnes 78 2 79 := Or.inl ⟨2, by decide +kernel⟩
theorem d7_leftRecursiveOnes_79 : jda cX7_leftRecursiveOnes 79 0 80 := Or.inl ⟨0, by decide +kernel⟩
theorem d7_leftRecursiveOnes_80 : jd cX7_leftRecursiveOnes 80 (.getfield 18) 3 83 := by decide +kernel
theorem d7_leftRecursiveOnes_83 : jdi cX7_leftRecursiveOnes 83 3 84 := Or.inl ⟨3, by decide +kernel⟩
theorem d7_leftRecursiveOnes_84 : jd cX7_leftRecursiveOnes 84 (.iaload) 1 85 := by decide +kernel
theorem d7_leftRecursiveOnes_85 : jdk cX7_leftRecursiveOnes 85 1 86 := Or.inl ⟨1, by decide +kernel⟩
theorem d7_leftRecursiveOnes_86 : jdi cX7_leftRecursiveOnes 86 3 87 := Or.inl ⟨3, by decide +kernel⟩
theorem d7_leftRecursiveOnes_87 : jd cX7_leftRecursiveOnes 87 (.ishl) 1 88 := by decide +kernel
theorem d7_leftRecursiveOnes_88 : jd cX7_leftRecursiveOnes 88 (.iand) 1 89 := by decide +kernel
theorem d7_leftRecursiveOnes_89 : jd cX7_leftRecursiveOnes 89 (.ior) 1 90 := by decide +kernel
theorem d7_leftRecursiveOnes_90 : jds cX7_leftRecursiveOnes 90 2 91 := Or.inl ⟨2, by decide +kernel⟩
theorem d7_leftRecursiveOnes_91 : jd cX7_leftRecursiveOnes 91 (.iinc 3 1) 3 94 := by decide +kernel
theorem d7_leftRecursiveOnes_94 : jdb cX7_leftRecursiveOnes 94 (.goto (-22)) (-22) 72 97 := by decide +kernel
theorem d7_leftRecursiveOnes_97 : jdi cX7_leftRecursiveOnes 97 2 98 := Or.inl ⟨2, by decide +kernel⟩
theorem d7_leftRecursiveOnes_98 : decode cX7_leftRecursiveOnes 98 = .ok (.ireturn, 1) := by decide +kernel
set_option maxHeartbeats 4000000 in
set_option maxRecDepth 100000 in
theorem wX7_leftRecursiveOnes_72 {X : jC} {tc : jTC} (C : jx X cX7_leftRecursiveOnes 4 RX7 (some .int) tc ({ frames := 3, cells := 0, slots := 0, locals := 66 } : Room)) (h_ h_begins h_p1 h_p1_codes : Nat) (g_first g_follow : Value) (c_nullable : Int32) (c_p1_codes : (Nat → Int32)) (c_p1_count : Int32) (o3 : (Nat → Int32)) (k5 : (Int32 → Option (Int32 × (Nat → Int32)))) (hk5 : ∀ w11 : Int32, jo X 4 (0, 0) (jQI X (fun (u : (Nat → Int32)) => [(h_, .inr (7, [.int c_nullable, g_first, g_follow, .ref h_begins])), (h_begins, .inl (tc.1, 8, .inl u)), (h_p1, .inr (6, [.ref h_p1_codes, .int c_p1_count])), (h_p1_codes, .inl (tc.1, 24, .inl c_p1_codes))])) (k5 w11) [(h_, .inr (7, [.int c_nullable, g_first, g_follow, .ref h_begins])), (h_begins, .inl (tc.1, 8, .inl o3)), (h_p1, .inr (6, [.ref h_p1_codes, .int c_p1_count])), (h_p1_codes, .inl (tc.1, 24, .inl c_p1_codes))] 97 [(2, .int w11)] []) (rc7 : Int32 × Int32 → Option (Int32 × (Nat → Int32))) (hrc7 : ∀ v6 : Int32 × Int32, jo X 4 (0, 0) (jQI X (fun (u : (Nat → Int32)) => [(h_, .inr (7, [.int c_nullable, g_first, g_follow, .ref h_begins])), (h_begins, .inl (tc.1, 8, .inl u)), (h_p1, .inr (6, [.ref h_p1_codes, .int c_p1_count])), (h_p1_codes, .inl (tc.1, 24, .inl c_p1_codes))])) (rc7 v6) [(h_, .inr (7, [.int c_nullable, g_first, g_follow, .ref h_begins])), (h_begins, .inl (tc.1, 8, .inl o3)), (h_p1, .inr (6, [.ref h_p1_codes, .int c_p1_count])), (h_p1_codes, .inl (tc.1, 24, .inl c_p1_codes))] 72 [(0, .ref h_), (2, .int v6.1), (3, .int v6.2)] []) (v6 : Int32 × Int32) : jo X 4 (0, 0) (jQI X (fun (u : (Nat → Int32)) => [(h_, .inr (7, [.int c_nullable, g_first, g_follow, .ref h_begins])), (h_begins, .inl (tc.1, 8, .inl u)), (h_p1, .inr (6, [.ref h_p1_codes, .int c_p1_count])), (h_p1_codes, .inl (tc.1, 24, .inl c_p1_codes))])) (bX7_leftRecursiveOnes_72 o3 k5 rc7 v6) [(h_, .inr (7, [.int c_nullable, g_first, g_follow, .ref h_begins])), (h_begins, .inl (tc.1, 8, .inl o3)), (h_p1, .inr (6, [.ref h_p1_codes, .int c_p1_count])), (h_p1_codes, .inl (tc.1, 24, .inl c_p1_codes))] 72 [(0, .ref h_), (2, .int v6.1), (3, .int v6.2)] [] := by
  unfold bX7_leftRecursiveOnes_72
  refine j_iload C d7_leftRecursiveOnes_72 2 rfl ?_
  refine j_const C d7_leftRecursiveOnes_73 ?_
  refine j_icmp_ge C d7_leftRecursiveOnes_75 ?_ ?_
  · exact j_sub [1] rfl (hk5 _)
  · refine j_iload C d7_leftRecursiveOnes_78 1 rfl ?_
    refine j_aload C d7_leftRecursiveOnes_79 0 rfl ?_
    refine j_get C d7_leftRecursiveOnes_80 fl7_18 0 rfl rfl ?_
    refine j_iload C d7_leftRecursiveOnes_83 2 rfl ?_
    refine j_iald C d7_leftRecursiveOnes_84 1 rfl (fun x8 => ?_)
    refine j_const C d7_leftRecursiveOnes_85 ?_
    refine j_iload C d7_leftRecursiveOnes_86 2 rfl ?_
    refine j_ishl C d7_leftRecursiveOnes_87 ?_
    refine j_iand C d7_leftRecursiveOnes_88 ?_
    refine j_ior C d7_leftRecursiveOnes_89 ?_
    refine j_leti (fun x9 => ?_)
    refine j_istore C d7_leftRecursiveOnes_90 (by decide) (lv' := [(2, .int x9), (0, .ref h_), (3, .int v6.2)]) rfl ?_
    refine j_iincN C (fun x10 => [(3, .int x10), (2, .int x9), (0, .ref h_)]) d7_leftRecursiveOnes_91 2 rfl (by decide +kernel) (by decide) (fun _ => rfl) (fun x10 => ?_)
    refine j_goto C d7_leftRecursiveOnes_94 ?_
    exact j_sub [2, 1, 0] rfl (hrc7 _)

set_option maxHeartbeats 4000000 in
set_option maxRecDepth 100000 in
theorem wX7_leftRecursiveOnes_23 {X : jC} {tc : jTC} (C : jx X cX7_leftRecursiveOnes 4 RX7 (some .int) tc ({ frames := 3, cells := 0, slots := 0, locals := 66 } : Room)) (N : Nat) (h_ h_begins h_p1 h_p1_codes : Nat) (g_first g_follow : Value) (c_nullable : Int32) (c_p1_codes : (Nat → Int32)) (c_p1_count : Int32) (k12 : ((Nat → Int32) → Option (Int32 × (Nat → Int32)))) (hk12 : ∀ w22 : (Nat → Int32), jo X 4 (0, 0) (jQI X (fun (u : (Nat → Int32)) => [(h_, .inr (7, [.int c_nullable, g_first, g_follow, .ref h_begins])), (h_begins, .inl (tc.1, 8, .inl u)), (h_p1, .inr (6, [.ref h_p1_codes, .int c_p1_count])), (h_p1_codes, .inl (tc.1, 24, .inl c_p1_codes))])) (k12 w22) [(h_, .inr (7, [.int c_nullable, g_first, g_follow, .ref h_begins])), (h_begins, .inl (tc.1, 8, .inl w22)), (h_p1, .inr (6, [.ref h_p1_codes, .int c_p1_count])), (h_p1_codes, .inl (tc.1, 24, .inl c_p1_codes))] 64 [(0, .ref h_)] []) (rc14 : Int32 × (Nat → Int32) → Option (Int32 × (Nat → Int32))) (hrc14 : ∀ v13 : Int32 × (Nat → Int32), jo X 4 (0, 0) (jQI X (fun (u : (Nat → Int32)) => [(h_, .inr (7, [.int c_nullable, g_first, g_follow, .ref h_begins])), (h_begins, .inl (tc.1, 8, .inl u)), (h_p1, .inr (6, [.ref h_p1_codes, .int c_p1_count])), (h_p1_codes, .inl (tc.1, 24, .inl c_p1_codes))])) (rc14 v13) [(h_, .inr (7, [.int c_nullable, g_first, g_follow, .ref h_begins])), (h_begins, .inl (tc.1, 8, .inl v13.2)), (h_p1, .inr (6, [.ref h_p1_codes, .int c_p1_count])), (h_p1_codes, .inl (tc.1, 24, .inl c_p1_codes))] 23 [(0, .ref h_), (1, .ref h_p1), (2, .int v13.1)] []) (v13 : Int32 × (Nat → Int32)) : jo X 4 (0, 0) (jQI X (fun (u : (Nat → Int32)) => [(h_, .inr (7, [.int c_nullable, g_first, g_follow, .ref h_begins])), (h_begins, .inl (tc.1, 8, .inl u)), (h_p1, .inr (6, [.ref h_p1_codes, .int c_p1_count])), (h_p1_codes, .inl (tc.1, 24, .inl c_p1_codes))])) (bX7_leftRecursiveOnes_23 N c_nullable c_p1_codes c_p1_count k12 rc14 v13) [(h_, .inr (7, [.int c_nullable, g_first, g_follow, .ref h_begins])), (h_begins, .inl (tc.1, 8, .inl v13.2)), (h_p1, .inr (6, [.ref h_p1_codes, .int c_p1_count])), (h_p1_codes, .inl (tc.1, 24, .inl c_p1_codes))] 23 [(0, .ref h_), (1, .ref h_p1), (2, .int v13.1)] [] := by
  unfold bX7_leftRecursiveOnes_23
  refine j_iload C d7_leftRecursiveOnes_23 2 rfl ?_
  refine j_aload C d7_leftRecursiveOnes_24 1 rfl ?_
  refine j_get C d7_leftRecursiveOnes_25 fl7_45 2 rfl rfl ?_
  refine j_icmp_ge C d7_leftRecursiveOnes_28 ?_ ?_
  · exact j_sub [0] rfl (hk12 _)
  · refine j_aload C d7_leftRecursiveOnes_31 0 rfl ?_
    refine j_get C d7_leftRecursiveOnes_32 fl7_18 0 rfl rfl ?_
    refine j_aload C d7_leftRecursiveOnes_35 1 rfl ?_
    refine j_get C d7_leftRecursiveOnes_36 fl7_50 2 rfl rfl ?_
    refine j_iload C d7_leftRecursiveOnes_39 2 rfl ?_
    refine j_iald C d7_leftRecursiveOnes_40 3 rfl (fun x15 => ?_)
    refine j_callSI0 (As := [.int x15]) C d7_leftRecursiveOnes_41 ms7_57 (kX6_leftOf _ _ tc x15) ⟨rfl, rfl, Nat.le_of_ble_eq_true rfl, Nat.le_of_ble_eq_true rfl⟩ rfl [] rfl rfl rfl (Nat.le_of_ble_eq_true rfl) (fun x16 => ?_)
    refine j_dup2 C d7_leftRecursiveOnes_44 rfl rfl ?_
    refine j_iald C d7_leftRecursiveOnes_45 1 rfl (fun x17 => ?_)
    refine j_aload C d7_leftRecursiveOnes_46 0 rfl ?_
    refine j_aload C d7_leftRecursiveOnes_47 1 rfl ?_
    refine j_get C d7_leftRecursiveOnes_48 fl7_50 2 rfl rfl ?_
    refine j_iload C d7_leftRecursiveOnes_51 2 rfl ?_
    refine j_iald C d7_leftRecursiveOnes_52 3 rfl (fun x18 => ?_)
    refine j_callVI0 (As := [.int x18]) C d7_leftRecursiveOnes_53 mv7_83 (kX7_nonterminalsThatBegin _ _ tc N h_ g_first g_follow (.ref h_begins) c_nullable x18) ⟨rfl, rfl, Nat.le_of_ble_eq_true rfl, Nat.le_of_ble_eq_true rfl⟩ rfl 0 rfl [0] rfl rfl rfl (Nat.le_of_ble_eq_true rfl) (fun x19 => ?_)
    refine j_ior C d7_leftRecursiveOnes_56 ?_
    refine j_iast C (fun f20 => [(h_, .inr (7, [.int c_nullable, g_first, g_follow, .ref h_begins])), (h_begins, .inl (tc.1, 8, .inl f20)), (h_p1, .inr (6, [.ref h_p1_codes, .int c_p1_count])), (h_p1_codes, .inl (tc.1, 24, .inl c_p1_codes))]) d7_leftRecursiveOnes_57 1 rfl (fun _ => rfl) (fun f20 => ?_)
    refine j_iincN C (fun x21 => [(2, .int x21), (0, .ref h_), (1, .ref h_p1)]) d7_leftRecursiveOnes_58 2 rfl (by decide +kernel) (by decide) (fun _ => rfl) (fun x21 => ?_)
    refine j_goto C d7_leftRecursiveOnes_61 ?_
    exact j_sub [1, 2, 0] rfl (hrc14 _)

set_option maxHeartbeats 4000000 in
set_option maxRecDepth 100000 in
theorem wX7_leftRecursiveOnes_2 {X : jC} {tc : jTC} (C : jx X cX7_leftRecursiveOnes 4 RX7 (some .int) tc ({ frames := 3, cells := 0, slots := 0, locals := 66 } : Room)) (h_ h_begins h_p1 h_p1_codes : Nat) (g_first g_follow : Value) (c_nullable : Int32) (c_p1_codes : (Nat → Int32)) (c_p1_count : Int32) (k23 : ((Nat → Int32) → Option (Int32 × (Nat → Int32)))) (hk23 : ∀ w28 : (Nat → Int32), jo X 4 (0, 0) (jQI X (fun (u : (Nat → Int32)) => [(h_, .inr (7, [.int c_nullable, g_first, g_follow, .ref h_begins])), (h_begins, .inl (tc.1, 8, .inl u)), (h_p1, .inr (6, [.ref h_p1_codes, .int c_p1_count])), (h_p1_codes, .inl (tc.1, 24, .inl c_p1_codes))])) (k23 w28) [(h_, .inr (7, [.int c_nullable, g_first, g_follow, .ref h_begins])), (h_begins, .inl (tc.1, 8, .inl w28)), (h_p1, .inr (6, [.ref h_p1_codes, .int c_p1_count])), (h_p1_codes, .inl (tc.1, 24, .inl c_p1_codes))] 21 [(0, .ref h_), (1, .ref h_p1)] []) (rc25 : Int32 × (Nat → Int32) → Option (Int32 × (Nat → Int32))) (hrc25 : ∀ v24 : Int32 × (Nat → Int32), jo X 4 (0, 0) (jQI X (fun (u : (Nat → Int32)) => [(h_, .inr (7, [.int c_nullable, g_first, g_follow, .ref h_begins])), (h_begins, .inl (tc.1, 8, .inl u)), (h_p1, .inr (6, [.ref h_p1_codes, .int c_p1_count])), (h_p1_codes, .inl (tc.1, 24, .inl c_p1_codes))])) (rc25 v24) [(h_, .inr (7, [.int c_nullable, g_first, g_follow, .ref h_begins])), (h_begins, .inl (tc.1, 8, .inl v24.2)), (h_p1, .inr (6, [.ref h_p1_codes, .int c_p1_count])), (h_p1_codes, .inl (tc.1, 24, .inl c_p1_codes))] 2 [(0, .ref h_), (1, .ref h_p1), (2, .int v24.1)] []) (v24 : Int32 × (Nat → Int32)) : jo X 4 (0, 0) (jQI X (fun (u : (Nat → Int32)) => [(h_, .inr (7, [.int c_nullable, g_first, g_follow, .ref h_begins])), (h_begins, .inl (tc.1, 8, .inl u)), (h_p1, .inr (6, [.ref h_p1_codes, .int c_p1_count])), (h_p1_codes, .inl (tc.1, 24, .inl c_p1_codes))])) (bX7_leftRecursiveOnes_2 k23 rc25 v24) [(h_, .inr (7, [.int c_nullable, g_first, g_follow, .ref h_begins])), (h_begins, .inl (tc.1, 8, .inl v24.2)), (h_p1, .inr (6, [.ref h_p1_codes, .int c_p1_count])), (h_p1_codes, .inl (tc.1, 24, .inl c_p1_codes))] 2 [(0, .ref h_), (1, .ref h_p1), (2, .int v24.1)] [] := by
  unfold bX7_leftRecursiveOnes_2
  refine j_iload C d7_leftRecursiveOnes_2 2 rfl ?_
  refine j_const C d7_leftRecursiveOnes_3 ?_
  refine j_icmp_ge C d7_leftRecursiveOnes_5 ?_ ?_
  · exact j_sub [0, 1] rfl (hk23 _)
  · refine j_aload C d7_leftRecursiveOnes_8 0 rfl ?_
    refine j_get C d7_leftRecursiveOnes_9 fl7_18 0 rfl rfl ?_
    refine j_iload C d7_leftRecursiveOnes_12 2 rfl ?_
    refine j_const C d7_leftRecursiveOnes_13 ?_
    refine j_iast C (fun f26 => [(h_, .inr (7, [.int c_nullable, g_first, g_follow, .ref h_begins])), (h_begins, .inl (tc.1, 8, .inl f26)), (h_p1, .inr (6, [.ref h_p1_codes, .int c_p1_count])), (h_p1_codes, .inl (tc.1, 24, .inl c_p1_codes))]) d7_leftRecursiveOnes_14 1 rfl (fun _ => rfl) (fun f26 => ?_)
    refine j_iincN C (fun x27 => [(2, .int x27), (0, .ref h_), (1, .ref h_p1)]) d7_leftRecursiveOnes_15 2 rfl (by decide +kernel) (by decide) (fun _ => rfl) (fun x27 => ?_)
    refine j_goto C d7_leftRecursiveOnes_18 ?_
    exact j_sub [1, 2, 0] rfl (hrc25 _)

set_option maxHeartbeats 4000000 in
set_option maxRecDepth 100000 in
theorem kX7_leftRecursiveOnes (l : Launch) (D : va_G) (tc : jTC) (N : Nat) (h_ h_begins h_p1 h_p1_codes : Nat) (g_first g_follow : Value) (c_nullable : Int32) (c_begins : (Nat → Int32)) (c_p1_codes : (Nat → Int32)) (c_p1_count : Int32) : ctI l D tc yX7_leftRecursiveOnes (Cond.code yX7_leftRecursiveOnes cX7_leftRecursiveOnes 4 (some .int) :: jtb) ({ frames := 3, cells := 0, slots := 0, locals := 66 } : Room) [.ref h_, .ref h_p1] [(h_, .inr (7, [.int c_nullable, g_first, g_follow, .ref h_begins])), (h_begins, .inl (tc.1, 8, .inl c_begins)), (h_p1, .inr (6, [.ref h_p1_codes, .int c_p1_count])), (h_p1_codes, .inl (tc.1, 24, .inl c_p1_codes))] (fX7_leftRecursiveOnes N c_nullable c_begins c_p1_codes c_p1_count) (fun (u : (Nat → Int32)) => [(h_, .inr (7, [.int c_nullable, g_first, g_follow, .ref h_begins])), (h_begins, .inl (tc.1, 8, .inl u)), (h_p1, .inr (6, [.ref h_p1_codes, .int c_p1_count])), (h_p1_codes, .inl (tc.1, 24, .inl c_p1_codes))]) := by
  refine ctI_of (lv0 := [(0, .ref h_), (1, .ref h_p1)]) (by decide +kernel) (Nat.le_of_ble_eq_true rfl) rfl (fun X C => ?_)
  unfold fX7_leftRecursiveOnes
  refine j_const C d7_leftRecursiveOnes_0 ?_
  refine j_istore C d7_leftRecursiveOnes_1 (by decide) (lv' := [(2, .int 0), (0, .ref h_), (1, .ref h_p1)]) rfl ?_
  refine j_join 21 (fun v1 => [(h_, .inr (7, [.int c_nullable, g_first, g_follow, .ref h_begins])), (h_begins, .inl (tc.1, 8, .inl v1)), (h_p1, .inr (6, [.ref h_p1_codes, .int c_p1_count])), (h_p1_codes, .inl (tc.1, 24, .inl c_p1_codes))]) (fun v1 => [(0, .ref h_), (1, .ref h_p1)]) (fun v1 => []) (fun v1 => ?_) (fun k23 hk23 => ?_)
  · refine j_const C d7_leftRecursiveOnes_21 ?_
    refine j_istore C d7_leftRecursiveOnes_22 (by decide) (lv' := [(2, .int 0), (0, .ref h_), (1, .ref h_p1)]) rfl ?_
    refine j_join 64 (fun v2 => [(h_, .inr (7, [.int c_nullable, g_first, g_follow, .ref h_begins])), (h_begins, .inl (tc.1, 8, .inl v2)), (h_p1, .inr (6, [.ref h_p1_codes, .int c_p1_count])), (h_p1_codes, .inl (tc.1, 24, .inl c_p1_codes))]) (fun v2 => [(0, .ref h_)]) (fun v2 => []) (fun v2 => ?_) (fun k12 hk12 => ?_)
    · refine j_aload C d7_leftRecursiveOnes_64 0 rfl ?_
      refine j_callVV (As := []) C d7_leftRecursiveOnes_65 mv7_86 (kX7_closeBegins _ _ tc N h_ h_begins (.int c_nullable) g_first g_follow v2) ⟨rfl, rfl, Nat.le_of_ble_eq_true rfl, Nat.le_of_ble_eq_true rfl⟩ rfl 0 rfl [0, 1] rfl rfl rfl (Nat.le_of_ble_eq_true rfl) (fun u => [(h_, .inr (7, [.int c_nullable, g_first, g_follow, .ref h_begins])), (h_begins, .inl (tc.1, 8, .inl u)), (h_p1, .inr (6, [.ref h_p1_codes, .int c_p1_count])), (h_p1_codes, .inl (tc.1, 24, .inl c_p1_codes))]) (fun _ => rfl) (fun _ => rfl) (fun _ => rfl) (fun o3 => ?_)
      refine j_const C d7_leftRecursiveOnes_68 ?_
      refine j_istore C d7_leftRecursiveOnes_69 (by decide) (lv' := [(2, .int 0), (0, .ref h_)]) rfl ?_
      refine j_const C d7_leftRecursiveOnes_70 ?_
      refine j_istore C d7_leftRecursiveOnes_71 (by decide) (lv' := [(3, .int 0), (2, .int 0), (0, .ref h_)]) rfl ?_
      refine j_join 97 (fun v4 => [(h_, .inr (7, [.int c_nullable, g_first, g_follow, .ref h_begins])), (h_begins, .inl (tc.1, 8, .inl o3)), (h_p1, .inr (6, [.ref h_p1_codes, .int c_p1_count])), (h_p1_codes, .inl (tc.1, 24, .inl c_p1_codes))]) (fun v4 => [(2, .int v4)]) (fun v4 => []) (fun v4 => ?_) (fun k5 hk5 => ?_)
      · refine j_iload C d7_leftRecursiveOnes_97 0 rfl ?_
        exact j_iret C d7_leftRecursiveOnes_98 rfl
      · exact j_sub [2, 1, 0] rfl (j_loop (fun v6 => [(h_, .inr (7, [.int c_nullable, g_first, g_follow, .ref h_begins])), (h_begins, .inl (tc.1, 8, .inl o3)), (h_p1, .inr (6, [.ref h_p1_codes, .int c_p1_count])), (h_p1_codes, .inl (tc.1, 24, .inl c_p1_codes))]) (fun v6 => [(0, .ref h_), (2, .int v6.1), (3, .int v6.2)]) (fun rc7 hrc7 v6 => wX7_leftRecursiveOnes_72 C h_ h_begins h_p1 h_p1_codes g_first g_follow c_nullable c_p1_codes c_p1_count o3 k5 hk5 rc7 hrc7 v6) N _)
    · exact j_sub [1, 2, 0] rfl (j_loop (fun v13 => [(h_, .inr (7, [.int c_nullable, g_first, g_follow, .ref h_begins])), (h_begins, .inl (tc.1, 8, .inl v13.2)), (h_p1, .inr (6, [.ref h_p1_codes, .int c_p1_count])), (h_p1_codes, .inl (tc.1, 24, .inl c_p1_codes))]) (fun v13 => [(0, .ref h_), (1, .ref h_p1), (2, .int v13.1)]) (fun rc14 hrc14 v13 => wX7_leftRecursiveOnes_23 C N h_ h_begins h_p1 h_p1_codes g_first g_follow c_nullable c_p1_codes c_p1_count k12 hk12 rc14 hrc14 v13) N _)
  · exact j_sub [1, 2, 0] rfl (j_loop (fun v24 => [(h_, .inr (7, [.int c_nullable, g_first, g_follow, .ref h_begins])), (h_begins, .inl (tc.1, 8, .inl v24.2)), (h_p1, .inr (6, [.ref h_p1_codes, .int c_p1_count])), (h_p1_codes, .inl (tc.1, 24, .inl c_p1_codes))]) (fun v24 => [(0, .ref h_), (1, .ref h_p1), (2, .int v24.1)]) (fun rc25 hrc25 v24 => wX7_leftRecursiveOnes_2 C h_ h_begins h_p1 h_p1_codes g_first g_follow c_nullable c_p1_codes c_p1_count k23 hk23 rc25 hrc25 v24) N _)

theorem d8_selectOf_0 : jda cX8_selectOf 0 0 1 := Or.inl ⟨0, by decide +kernel⟩
theorem d8_selectOf_1 : jd cX8_selectOf 1 (.getfield 25) 3 4 := by decide +kernel
theorem d8_selectOf_4 : jdi cX8_selectOf 4 1 5 := Or.inl ⟨1, by decide +kernel⟩
theorem d8_selectOf_5 : jdk cX8_selectOf 5 0 6 := Or.inl ⟨0, by decide +kernel⟩
theorem d8_selectOf_6 : jd cX8_selectOf 6 (.invokevirtual 52) 3 9 := by decide +kernel
theorem d8_selectOf_9 : jds cX8_selectOf 9 2 10 := Or.inl ⟨2, by decide +kernel⟩
theorem d8_selectOf_10 : jda cX8_selectOf 10 0 11 := Or.inl ⟨0, by decide +kernel⟩
theorem d8_selectOf_11 : jd cX8_selectOf 11 (.getfield 25) 3 14 := by decide +kernel
theorem d8_selectOf_14 : jdi cX8_selectOf 14 1 15 := Or.inl ⟨1, by decide +kernel⟩
theorem d8_selectOf_15 : jdk cX8_selectOf 15 0 16 := Or.inl ⟨0, by decide +kernel⟩
theorem d8_selectOf_16 : jd cX8_selectOf 16 (.invokevirtual 58) 3 19 := by decide +kernel
theorem d8_selectOf_19 : jdb cX8_selectOf 19 (.ifCond .eq 20) 20 39 22 := by decide +kernel
theorem d8_selectOf_22 : jdi cX8_selectOf 22 2 23 := Or.inl ⟨2, by decide +kernel⟩
theorem d8_selectOf_23 : jda cX8_selectOf 23 0 24 := Or.inl ⟨0, by decide +kernel⟩
theorem d8_selectOf_24 : jd cX8_selectOf 24 (.getfield 25) 3 27 := by decide +kernel
theorem d8_selectOf_27 : jd cX8_selectOf 27 (.getfield 62) 3 30 := by decide +kernel
theorem d8_selectOf_30 : jdi cX8_selectOf 30 1 31 := Or.inl ⟨1, by decide +kernel⟩
theorem d8_selectOf_31 : jd cX8_selectOf 31 (.invokestatic 65) 3 34 := by decide +kernel
theorem d8_selectOf_34 : jd cX8_selectOf 34 (.iaload) 1 35 := by decide +kernel
theorem d8_selectOf_35 : jd cX8_selectOf 35 (.ior) 1 36 := by decide +kernel
theorem d8_selectOf_36 : jdb cX8_selectOf 36 (.goto 4) 4 40 39 := by decide +kernel
theorem d8_selectOf_39 : jdi cX8_selectOf 39 2 40 := Or.inl ⟨2, by decide +kernel⟩
theorem d8_selectOf_40 : decode cX8_selectOf 40 = .ok (.ireturn, 1) := by decide +kernel
set_option maxHeartbeats 4000000 in
set_option maxRecDepth 100000 in
theorem kX8_selectOf (l : Launch) (D : va_G) (tc : jTC) (N : Nat) (h_ h_sets h_sets_first h_sets_follow : Nat) (g_rules g_select g_possible g_lowest g_conflicts g_sets_begins : Value) (c_sets_nullable : Int32) (c_sets_first : (Nat → Int32)) (c_sets_follow : (Nat → Int32)) (p1 : Int32) : ctI0 l D tc yX8_selectOf (Cond.code yX8_selectOf cX8_selectOf 3 (some .int) :: jtb) ({ frames := 3, cells := 0, slots := 0, locals := 66 } : Room) [.ref h_, .int p1] [(h_, .inr (8, [g_rules, .ref h_sets, g_select, g_possible, g_lowest, g_conflicts])), (h_sets, .inr (7, [.int c_sets_nullable, .ref h_sets_first, .ref h_sets_follow, g_sets_begins])), (h_sets_first, .inl (tc.1, 8, .inl c_sets_first)), (h_sets_follow, .inl (tc.1, 8, .inl c_sets_follow))] (fX8_selectOf N c_sets_nullable c_sets_first c_sets_follow p1) := by
  refine ctI0_of (lv0 := [(0, .ref h_), (1, .int p1)]) (by decide +kernel) (Nat.le_of_ble_eq_true rfl) rfl (fun X C => ?_)
  unfold fX8_selectOf
  refine j_aload C d8_selectOf_0 0 rfl ?_
  refine j_get C d8_selectOf_1 fl8_25 0 rfl rfl ?_
  refine j_iload C d8_selectOf_4 1 rfl ?_
  refine j_const C d8_selectOf_5 ?_
  refine j_callVI0 (As := [.int p1, .int 0]) C d8_selectOf_6 mv8_52 (kX7_firstFrom _ _ tc N h_sets h_sets_first (.ref h_sets_follow) g_sets_begins c_sets_nullable c_sets_first p1 0) ⟨rfl, rfl, Nat.le_of_ble_eq_true rfl, Nat.le_of_ble_eq_true rfl⟩ rfl 1 rfl [1, 2] rfl rfl rfl (Nat.le_of_ble_eq_true rfl) (fun x1 => ?_)
  refine j_istore C d8_selectOf_9 (by decide) (lv' := [(2, .int x1), (0, .ref h_), (1, .int p1)]) rfl ?_
  refine j_aload C d8_selectOf_10 1 rfl ?_
  refine j_get C d8_selectOf_11 fl8_25 0 rfl rfl ?_
  refine j_iload C d8_selectOf_14 2 rfl ?_
  refine j_const C d8_selectOf_15 ?_
  refine j_callVI0 (As := [.int p1, .int 0]) C d8_selectOf_16 mv8_58 (kX7_vanishes _ _ tc N h_sets (.ref h_sets_first) (.ref h_sets_follow) g_sets_begins c_sets_nullable p1 0) ⟨rfl, rfl, Nat.le_of_ble_eq_true rfl, Nat.le_of_ble_eq_true rfl⟩ rfl 1 rfl [1] rfl rfl rfl (Nat.le_of_ble_eq_true rfl) (fun x2 => ?_)
  refine j_join 40 (fun v3 => [(h_, .inr (8, [g_rules, .ref h_sets, g_select, g_possible, g_lowest, g_conflicts])), (h_sets, .inr (7, [.int c_sets_nullable, .ref h_sets_first, .ref h_sets_follow, g_sets_begins])), (h_sets_first, .inl (tc.1, 8, .inl c_sets_first)), (h_sets_follow, .inl (tc.1, 8, .inl c_sets_follow))]) (fun v3 => []) (fun v3 => [.int v3]) (fun v3 => ?_) (fun k4 hk4 => ?_)
  · exact j_iret0 C d8_selectOf_40
  · refine j_if_eq C d8_selectOf_19 ?_ ?_
    · refine j_iload C d8_selectOf_39 0 rfl ?_
      exact j_sub [] rfl (hk4 _)
    · refine j_iload C d8_selectOf_22 0 rfl ?_
      refine j_aload C d8_selectOf_23 1 rfl ?_
      refine j_get C d8_selectOf_24 fl8_25 0 rfl rfl ?_
      refine j_get C d8_selectOf_27 fl8_62 1 rfl rfl ?_
      refine j_iload C d8_selectOf_30 2 rfl ?_
      refine j_callSI0 (As := [.int p1]) C d8_selectOf_31 ms8_65 (kX6_leftOf _ _ tc p1) ⟨rfl, rfl, Nat.le_of_ble_eq_true rfl, Nat.le_of_ble_eq_true rfl⟩ rfl [] rfl rfl rfl (Nat.le_of_ble_eq_true rfl) (fun x5 => ?_)
      refine j_iald C d8_selectOf_34 3 rfl (fun x6 => ?_)
      refine j_ior C d8_selectOf_35 ?_
      refine j_goto C d8_selectOf_36 ?_
      exact j_sub [] rfl (hk4 _)

theorem d8_enter_0 : jda cX8_enter 0 0 1 := Or.inl ⟨0, by decide +kernel⟩
theorem d8_enter_1 : jd cX8_enter 1 (.getfield 21) 3 4 := by decide +kernel
theorem d8_enter_4 : jd cX8_enter 4 (.getfield 35) 3 7 := by decide +kernel
theorem d8_enter_7 : jdi cX8_enter 7 1 8 := Or.inl ⟨1, by decide +kernel⟩
theorem d8_enter_8 : jd cX8_enter 8 (.iaload) 1 9 := by decide +kernel
theorem d8_enter_9 : jd cX8_enter 9 (.invokestatic 65) 3 12 := by decide +kernel
theorem d8_enter_12 : jdk cX8_enter 12 9 14 := Or.inr (Or.inl ⟨9, by decide +kernel⟩)
theorem d8_enter_14 : jd cX8_enter 14 (.imul) 1 15 := by decide +kernel
theorem d8_enter_15 : jds cX8_enter 15 2 16 := Or.inl ⟨2, by decide +kernel⟩
theorem d8_enter_16 : jdk cX8_enter 16 0 17 := Or.inl ⟨0, by decide +kernel⟩
theorem d8_enter_17 : jds cX8_enter 17 3 18 := Or.inl ⟨3, by decide +kernel⟩
theorem d8_enter_18 : jdi cX8_enter 18 3 19 := Or.inl ⟨3, by decide +kernel⟩
theorem d8_enter_19 : jdk cX8_enter 19 9 21 := Or.inr (Or.inl ⟨9, by decide +kernel⟩)
theorem d8_enter_21 : jdb cX8_enter 21 (.if_icmp .ge 44) 44 65 24 := by decide +kernel
theorem d8_enter_24 : jda cX8_enter 24 0 25 := Or.inl ⟨0, by decide +kernel⟩
theorem d8_enter_25 : jd cX8_enter 25 (.getfield 9) 3 28 := by decide +kernel
theorem d8_enter_28 : jdi cX8_enter 28 1 29 := Or.inl ⟨1, by decide +kernel⟩
theorem d8_enter_29 : jd cX8_enter 29 (.iaload) 1 30 := by decide +kernel
theorem d8_enter_30 : jdi cX8_enter 30 3 31 := Or.inl ⟨3, by decide +kernel⟩
theorem d8_enter_31 : jd cX8_enter 31 (.invokestatic 68) 3 34 := by decide +kernel
theorem d8_enter_34 : jdk cX8_enter 34 1 35 := Or.inl ⟨1, by decide +kernel⟩
theorem d8_enter_35 : jdb cX8_enter 35 (.if_icmp .ne 24) 24 59 38 := by decide +kernel
theorem d8_enter_38 : jda cX8_enter 38 0 39 := Or.inl ⟨0, by decide +kernel⟩
theorem d8_enter_39 : jd cX8_enter 39 (.getfield 15) 3 42 := by decide +kernel
theorem d8_enter_42 : jdi cX8_enter 42 2 43 := Or.inl ⟨2, by decide +kernel⟩
theorem d8_enter_43 : jdi cX8_enter 43 3 44 := Or.inl ⟨3, by decide +kernel⟩
theorem d8_enter_44 : jd cX8_enter 44 (.iadd) 1 45 := by decide +kernel
theorem d8_enter_45 : jd cX8_enter 45 (.dup2) 1 46 := by decide +kernel
theorem d8_enter_46 : jd cX8_enter 46 (.iaload) 1 47 := by decide +kernel
theorem d8_enter_47 : jdk cX8_enter 47 1 48 := Or.inl ⟨1, by decide +kernel⟩
theorem d8_enter_48 : jd cX8_enter 48 (.iadd) 1 49 := by decide +kernel
theorem d8_enter_49 : jd cX8_enter 49 (.iastore) 1 50 := by decide +kernel
theorem d8_enter_50 : jda cX8_enter 50 0 51 := Or.inl ⟨0, by decide +kernel⟩
theorem d8_enter_51 : jd cX8_enter 51 (.getfield 18) 3 54 := by decide +kernel
theorem d8_enter_54 : jdi cX8_enter 54 2 55 := Or.inl ⟨2, by decide +kernel⟩
theorem d8_enter_55 : jdi cX8_enter 55 3 56 := Or.inl ⟨3, by decide +kernel⟩
theorem d8_enter_56 : jd cX8_enter 56 (.iadd) 1 57 := by decide +kernel
theorem d8_enter_57 : jdi cX8_enter 57 1 58 := Or.inl ⟨1, by decide +kernel⟩
theorem d8_enter_58 : jd cX8_enter 58 (.iastore) 1 59 := by decide +kernel
theorem d8_enter_59 : jd cX8_enter 59 (.iinc 3 1) 3 62 := by decide +kernel
theorem d8_enter_62 : jdb cX8_enter 62 (.goto (-44)) (-44) 18 65 := by decide +kernel
theorem d8_enter_65 : decode cX8_enter 65 = .ok (.return_, 1) := by decide +kernel
set_option maxHeartbeats 4000000 in
set_option maxRecDepth 100000 in
theorem wX8_enter_18 {X : jC} {tc : jTC} (C : jx X cX8_enter 4 RX8 none tc ({ frames := 1, cells := 0, slots := 0, locals := 21 } : Room)) (h_ h_rules h_rules_codes h_select h_possible h_lowest : Nat) (g_sets g_conflicts g_rules_count : Value) (p1 : Int32) (c_rules_codes : (Nat → Int32)) (c_select : (Nat → Int32)) (x3 : Int32) (k5 : ((Nat → Int32) × (Nat → Int32) → Option ((Nat → Int32) × (Nat → Int32)))) (hk5 : ∀ w16 : (Nat → Int32) × (Nat → Int32), jo X 4 (0, 0) (jQV X (fun (u : (Nat → Int32) × (Nat → Int32)) => [(h_, .inr (8, [.ref h_rules, g_sets, .ref h_select, .ref h_possible, .ref h_lowest, g_conflicts])), (h_rules, .inr (6, [.ref h_rules_codes, g_rules_count])), (h_rules_codes, .inl (tc.1, 24, .inl c_rules_codes)), (h_select, .inl (tc.1, 24, .inl c_select)), (h_possible, .inl (tc.1, 72, .inl u.1)), (h_lowest, .inl (tc.1, 72, .inl u.2))])) (k5 w16) [(h_, .inr (8, [.ref h_rules, g_sets, .ref h_select, .ref h_possible, .ref h_lowest, g_conflicts])), (h_rules, .inr (6, [.ref h_rules_codes, g_rules_count])), (h_rules_codes, .inl (tc.1, 24, .inl c_rules_codes)), (h_select, .inl (tc.1, 24, .inl c_select)), (h_possible, .inl (tc.1, 72, .inl w16.1)), (h_lowest, .inl (tc.1, 72, .inl w16.2))] 65 [] []) (rc7 : Int32 × (Nat → Int32) × (Nat → Int32) → Option ((Nat → Int32) × (Nat → Int32))) (hrc7 : ∀ v6 : Int32 × (Nat → Int32) × (Nat → Int32), jo X 4 (0, 0) (jQV X (fun (u : (Nat → Int32) × (Nat → Int32)) => [(h_, .inr (8, [.ref h_rules, g_sets, .ref h_select, .ref h_possible, .ref h_lowest, g_conflicts])), (h_rules, .inr (6, [.ref h_rules_codes, g_rules_count])), (h_rules_codes, .inl (tc.1, 24, .inl c_rules_codes)), (h_select, .inl (tc.1, 24, .inl c_select)), (h_possible, .inl (tc.1, 72, .inl u.1)), (h_lowest, .inl (tc.1, 72, .inl u.2))])) (rc7 v6) [(h_, .inr (8, [.ref h_rules, g_sets, .ref h_select, .ref h_possible, .ref h_lowest, g_conflicts])), (h_rules, .inr (6, [.ref h_rules_codes, g_rules_count])), (h_rules_codes, .inl (tc.1, 24, .inl c_rules_codes)), (h_select, .inl (tc.1, 24, .inl c_select)), (h_possible, .inl (tc.1, 72, .inl v6.2.1)), (h_lowest, .inl (tc.1, 72, .inl v6.2.2))] 18 [(0, .ref h_), (1, .int p1), (2, .int x3), (3, .int v6.1)] []) (v6 : Int32 × (Nat → Int32) × (Nat → Int32)) : jo X 4 (0, 0) (jQV X (fun (u : (Nat → Int32) × (Nat → Int32)) => [(h_, .inr (8, [.ref h_rules, g_sets, .ref h_select, .ref h_possible, .ref h_lowest, g_conflicts])), (h_rules, .inr (6, [.ref h_rules_codes, g_rules_count])), (h_rules_codes, .inl (tc.1, 24, .inl c_rules_codes)), (h_select, .inl (tc.1, 24, .inl c_select)), (h_possible, .inl (tc.1, 72, .inl u.1)), (h_lowest, .inl (tc.1, 72, .inl u.2))])) (bX8_enter_18 p1 c_select x3 k5 rc7 v6) [(h_, .inr (8, [.ref h_rules, g_sets, .ref h_select, .ref h_possible, .ref h_lowest, g_conflicts])), (h_rules, .inr (6, [.ref h_rules_codes, g_rules_count])), (h_rules_codes, .inl (tc.1, 24, .inl c_rules_codes)), (h_select, .inl (tc.1, 24, .inl c_select)), (h_possible, .inl (tc.1, 72, .inl v6.2.1)), (h_lowest, .inl (tc.1, 72, .inl v6.2.2))] 18 [(0, .ref h_), (1, .int p1), (2, .int x3), (3, .int v6.1)] [] := by
  unfold bX8_enter_18
  refine j_iload C d8_enter_18 3 rfl ?_
  refine j_const C d8_enter_19 ?_
  refine j_icmp_ge C d8_enter_21 ?_ ?_
  · exact j_sub [] rfl (hk5 _)
  · refine j_aload C d8_enter_24 0 rfl ?_
    refine j_get C d8_enter_25 fl8_9 0 rfl rfl ?_
    refine j_iload C d8_enter_28 1 rfl ?_
    refine j_iald C d8_enter_29 3 rfl (fun x8 => ?_)
    refine j_iload C d8_enter_30 3 rfl ?_
    refine j_callNI0 (As := [.int x8, .int v6.1]) C d8_enter_31 mn8_68 (kX11_bit _ _ tc x8 v6.1) ⟨rfl, rfl, Nat.le_of_ble_eq_true rfl, Nat.le_of_ble_eq_true rfl⟩ rfl [] rfl rfl rfl (Nat.le_of_ble_eq_true rfl) (fun x9 => ?_)
    refine j_const C d8_enter_34 ?_
    refine j_join 59 (fun v10 => [(h_, .inr (8, [.ref h_rules, g_sets, .ref h_select, .ref h_possible, .ref h_lowest, g_conflicts])), (h_rules, .inr (6, [.ref h_rules_codes, g_rules_count])), (h_rules_codes, .inl (tc.1, 24, .inl c_rules_codes)), (h_select, .inl (tc.1, 24, .inl c_select)), (h_possible, .inl (tc.1, 72, .inl v10.1)), (h_lowest, .inl (tc.1, 72, .inl v10.2))]) (fun v10 => [(0, .ref h_), (1, .int p1), (2, .int x3), (3, .int v6.1)]) (fun v10 => []) (fun v10 => ?_) (fun k12 hk12 => ?_)
    · refine j_iincN C (fun x11 => [(3, .int x11), (0, .ref h_), (1, .int p1), (2, .int x3)]) d8_enter_59 3 rfl (by decide +kernel) (by decide) (fun _ => rfl) (fun x11 => ?_)
      refine j_goto C d8_enter_62 ?_
      exact j_sub [1, 2, 3, 0] rfl (hrc7 _)
    · refine j_icmp_ne C d8_enter_35 ?_ ?_
      · exact hk12 _
      · refine j_aload C d8_enter_38 0 rfl ?_
        refine j_get C d8_enter_39 fl8_15 0 rfl rfl ?_
        refine j_iload C d8_enter_42 2 rfl ?_
        refine j_iload C d8_enter_43 3 rfl ?_
        refine j_iadd C d8_enter_44 ?_
        refine j_dup2 C d8_enter_45 rfl rfl ?_
        refine j_iald C d8_enter_46 4 rfl (fun x13 => ?_)
        refine j_const C d8_enter_47 ?_
        refine j_iadd C d8_enter_48 ?_
        refine j_iast C (fun f14 => [(h_, .inr (8, [.ref h_rules, g_sets, .ref h_select, .ref h_possible, .ref h_lowest, g_conflicts])), (h_rules, .inr (6, [.ref h_rules_codes, g_rules_count])), (h_rules_codes, .inl (tc.1, 24, .inl c_rules_codes)), (h_select, .inl (tc.1, 24, .inl c_select)), (h_possible, .inl (tc.1, 72, .inl f14)), (h_lowest, .inl (tc.1, 72, .inl v6.2.2))]) d8_enter_49 4 rfl (fun _ => rfl) (fun f14 => ?_)
        refine j_aload C d8_enter_50 0 rfl ?_
        refine j_get C d8_enter_51 fl8_18 0 rfl rfl ?_
        refine j_iload C d8_enter_54 2 rfl ?_
        refine j_iload C d8_enter_55 3 rfl ?_
        refine j_iadd C d8_enter_56 ?_
        refine j_iload C d8_enter_57 1 rfl ?_
        refine j_iast C (fun f15 => [(h_, .inr (8, [.ref h_rules, g_sets, .ref h_select, .ref h_possible, .ref h_lowest, g_conflicts])), (h_rules, .inr (6, [.ref h_rules_codes, g_rules_count])), (h_rules_codes, .inl (tc.1, 24, .inl c_rules_codes)), (h_select, .inl (tc.1, 24, .inl c_select)), (h_possible, .inl (tc.1, 72, .inl f14)), (h_lowest, .inl (tc.1, 72, .inl f15))]) d8_enter_58 5 rfl (fun _ => rfl) (fun f15 => ?_)
        exact hk12 _

set_option maxHeartbeats 4000000 in
set_option maxRecDepth 100000 in
theorem kX8_enter (l : Launch) (D : va_G) (tc : jTC) (N : Nat) (h_ h_rules h_rules_codes h_select h_possible h_lowest : Nat) (g_sets g_conflicts g_rules_count : Value) (c_rules_codes : (Nat → Int32)) (c_select : (Nat → Int32)) (c_possible : (Nat → Int32)) (c_lowest : (Nat → Int32)) (p1 : Int32) : ctV l D tc yX8_enter (Cond.code yX8_enter cX8_enter 4 none :: jtb) ({ frames := 1, cells := 0, slots := 0, locals := 21 } : Room) [.ref h_, .int p1] [(h_, .inr (8, [.ref h_rules, g_sets, .ref h_select, .ref h_possible, .ref h_lowest, g_conflicts])), (h_rules, .inr (6, [.ref h_rules_codes, g_rules_count])), (h_rules_codes, .inl (tc.1, 24, .inl c_rules_codes)), (h_select, .inl (tc.1, 24, .inl c_select)), (h_possible, .inl (tc.1, 72, .inl c_possible)), (h_lowest, .inl (tc.1, 72, .inl c_lowest))] (fX8_enter N c_rules_codes c_select c_possible c_lowest p1) (fun (u : (Nat → Int32) × (Nat → Int32)) => [(h_, .inr (8, [.ref h_rules, g_sets, .ref h_select, .ref h_possible, .ref h_lowest, g_conflicts])), (h_rules, .inr (6, [.ref h_rules_codes, g_rules_count])), (h_rules_codes, .inl (tc.1, 24, .inl c_rules_codes)), (h_select, .inl (tc.1, 24, .inl c_select)), (h_possible, .inl (tc.1, 72, .inl u.1)), (h_lowest, .inl (tc.1, 72, .inl u.2))]) := by
  refine ctV_of (lv0 := [(0, .ref h_), (1, .int p1)]) (by decide +kernel) (Nat.le_of_ble_eq_true rfl) rfl (fun X C => ?_)
  unfold fX8_enter
  refine j_aload C d8_enter_0 0 rfl ?_
  refine j_get C d8_enter_1 fl8_21 0 rfl rfl ?_
  refine j_get C d8_enter_4 fl8_35 1 rfl rfl ?_
  refine j_iload C d8_enter_7 1 rfl ?_
  refine j_iald C d8_enter_8 2 rfl (fun x1 => ?_)
  refine j_callSI0 (As := [.int x1]) C d8_enter_9 ms8_65 (kX6_leftOf _ _ tc x1) ⟨rfl, rfl, Nat.le_of_ble_eq_true rfl, Nat.le_of_ble_eq_true rfl⟩ rfl [] rfl rfl rfl (Nat.le_of_ble_eq_true rfl) (fun x2 => ?_)
  refine j_const C d8_enter_12 ?_
  refine j_imul C d8_enter_14 ?_
  refine j_leti (fun x3 => ?_)
  refine j_istore C d8_enter_15 (by decide) (lv' := [(2, .int x3), (0, .ref h_), (1, .int p1)]) rfl ?_
  refine j_const C d8_enter_16 ?_
  refine j_istore C d8_enter_17 (by decide) (lv' := [(3, .int 0), (2, .int x3), (0, .ref h_), (1, .int p1)]) rfl ?_
  refine j_join 65 (fun v4 => [(h_, .inr (8, [.ref h_rules, g_sets, .ref h_select, .ref h_possible, .ref h_lowest, g_conflicts])), (h_rules, .inr (6, [.ref h_rules_codes, g_rules_count])), (h_rules_codes, .inl (tc.1, 24, .inl c_rules_codes)), (h_select, .inl (tc.1, 24, .inl c_select)), (h_possible, .inl (tc.1, 72, .inl v4.1)), (h_lowest, .inl (tc.1, 72, .inl v4.2))]) (fun v4 => []) (fun v4 => []) (fun v4 => ?_) (fun k5 hk5 => ?_)
  · exact j_vret C d8_enter_65 rfl
  · exact j_sub [2, 3, 1, 0] rfl (j_loop (fun v6 => [(h_, .inr (8, [.ref h_rules, g_sets, .ref h_select, .ref h_possible, .ref h_lowest, g_conflicts])), (h_rules, .inr (6, [.ref h_rules_codes, g_rules_count])), (h_rules_codes, .inl (tc.1, 24, .inl c_rules_codes)), (h_select, .inl (tc.1, 24, .inl c_select)), (h_possible, .inl (tc.1, 72, .inl v6.2.1)), (h_lowest, .inl (tc.1, 72, .inl v6.2.2))]) (fun v6 => [(0, .ref h_), (1, .int p1), (2, .int x3), (3, .int v6.1)]) (fun rc7 hrc7 v6 => wX8_enter_18 C h_ h_rules h_rules_codes h_select h_possible h_lowest g_sets g_conflicts g_rules_count p1 c_rules_codes c_select x3 k5 hk5 rc7 hrc7 v6) N _)

theorem d8_pairsIn_0 : jda cX8_pairsIn 0 0 1 := Or.inl ⟨0, by decide +kernel⟩
theorem d8_pairsIn_1 : jd cX8_pairsIn 1 (.getfield 15) 3 4 := by decide +kernel
theorem d8_pairsIn_4 : jdi cX8_pairsIn 4 1 5 := Or.inl ⟨1, by decide +kernel⟩
theorem d8_pairsIn_5 : jd cX8_pairsIn 5 (.iaload) 1 6 := by decide +kernel
theorem d8_pairsIn_6 : jda cX8_pairsIn 6 0 7 := Or.inl ⟨0, by decide +kernel⟩
theorem d8_pairsIn_7 : jd cX8_pairsIn 7 (.getfield 15) 3 10 := by decide +kernel
theorem d8_pairsIn_10 : jdi cX8_pairsIn 10 1 11 := Or.inl ⟨1, by decide +kernel⟩
theorem d8_pairsIn_11 : jd cX8_pairsIn 11 (.iaload) 1 12 := by decide +kernel
theorem d8_pairsIn_12 : jdk cX8_pairsIn 12 1 13 := Or.inl ⟨1, by decide +kernel⟩
theorem d8_pairsIn_13 : jd cX8_pairsIn 13 (.isub) 1 14 := by decide +kernel
theorem d8_pairsIn_14 : jd cX8_pairsIn 14 (.imul) 1 15 := by decide +kernel
theorem d8_pairsIn_15 : jdk cX8_pairsIn 15 2 16 := Or.inl ⟨2, by decide +kernel⟩
theorem d8_pairsIn_16 : jd cX8_pairsIn 16 (.idiv) 1 17 := by decide +kernel
theorem d8_pairsIn_17 : decode cX8_pairsIn 17 = .ok (.ireturn, 1) := by decide +kernel
set_option maxHeartbeats 4000000 in
set_option maxRecDepth 100000 in
theorem kX8_pairsIn (l : Launch) (D : va_G) (tc : jTC) (h_ h_possible : Nat) (g_rules g_sets g_select g_lowest g_conflicts : Value) (c_possible : (Nat → Int32)) (p1 : Int32) : ctI0 l D tc yX8_pairsIn (Cond.code yX8_pairsIn cX8_pairsIn 2 (some .int) :: jtb) ({ frames := 0, cells := 0, slots := 0, locals := 0 } : Room) [.ref h_, .int p1] [(h_, .inr (8, [g_rules, g_sets, g_select, .ref h_possible, g_lowest, g_conflicts])), (h_possible, .inl (tc.1, 72, .inl c_possible))] (fX8_pairsIn c_possible p1) := by
  refine ctI0_of (lv0 := [(0, .ref h_), (1, .int p1)]) (by decide +kernel) (Nat.le_of_ble_eq_true rfl) rfl (fun X C => ?_)
  unfold fX8_pairsIn
  refine j_aload C d8_pairsIn_0 0 rfl ?_
  refine j_get C d8_pairsIn_1 fl8_15 0 rfl rfl ?_
  refine j_iload C d8_pairsIn_4 1 rfl ?_
  refine j_iald C d8_pairsIn_5 1 rfl (fun x1 => ?_)
  refine j_aload C d8_pairsIn_6 0 rfl ?_
  refine j_get C d8_pairsIn_7 fl8_15 0 rfl rfl ?_
  refine j_iload C d8_pairsIn_10 1 rfl ?_
  refine j_iald C d8_pairsIn_11 1 rfl (fun x2 => ?_)
  refine j_const C d8_pairsIn_12 ?_
  refine j_isub C d8_pairsIn_13 ?_
  refine j_imul C d8_pairsIn_14 ?_
  refine j_const C d8_pairsIn_15 ?_
  refine j_idiv C d8_pairsIn_16 (by decide) ?_
  exact j_iret0 C d8_pairsIn_17

theorem d8_compute_0 : jdk cX8_compute 0 0 1 := Or.inl ⟨0, by decide +kernel⟩
theorem d8_compute_1 : jds cX8_compute 1 1 2 := Or.inl ⟨1, by decide +kernel⟩
theorem d8_compute_2 : jdi cX8_compute 2 1 3 := Or.inl ⟨1, by decide +kernel⟩
theorem d8_compute_3 : jdk cX8_compute 3 72 5 := Or.inr (Or.inl ⟨72, by decide +kernel⟩)
theorem d8_compute_5 : jdb cX8_compute 5 (.if_icmp .ge 16) 16 21 8 := by decide +kernel
theorem d8_compute_8 : jda cX8_compute 8 0 9 := Or.inl ⟨0, by decide +kernel⟩
theorem d8_compute_9 : jd cX8_compute 9 (.getfield 15) 3 12 := by decide +kernel
theorem d8_compute_12 : jdi cX8_compute 12 1 13 := Or.inl ⟨1, by decide +kernel⟩
theorem d8_compute_13 : jdk cX8_compute 13 0 14 := Or.inl ⟨0, by decide +kernel⟩
theorem d8_compute_14 : jd cX8_compute 14 (.iastore) 1 15 := by decide +kernel
theorem d8_compute_15 : jd cX8_compute 15 (.iinc 1 1) 3 18 := by decide +kernel
theorem d8_compute_18 : jdb cX8_compute 18 (.goto (-16)) (-16) 2 21 := by decide +kernel
theorem d8_compute_21 : jda cX8_compute 21 0 22 := Or.inl ⟨0, by decide +kernel⟩
theorem d8_compute_22 : jd cX8_compute 22 (.getfield 21) 3 25 := by decide +kernel
theorem d8_compute_25 : jd cX8_compute 25 (.getfield 29) 3 28 := by decide +kernel
theorem d8_compute_28 : jdk cX8_compute 28 1 29 := Or.inl ⟨1, by decide +kernel⟩
theorem d8_compute_29 : jd cX8_compute 29 (.isub) 1 30 := by decide +kernel
theorem d8_compute_30 : jds cX8_compute 30 1 31 := Or.inl ⟨1, by decide +kernel⟩
theorem d8_compute_31 : jdi cX8_compute 31 1 32 := Or.inl ⟨1, by decide +kernel⟩
theorem d8_compute_32 : jdb cX8_compute 32 (.ifCond .lt 33) 33 65 35 := by decide +kernel
theorem d8_compute_35 : jda cX8_compute 35 0 36 := Or.inl ⟨0, by decide +kernel⟩
theorem d8_compute_36 : jd cX8_compute 36 (.getfield 9) 3 39 := by decide +kernel
theorem d8_compute_39 : jdi cX8_compute 39 1 40 := Or.inl ⟨1, by decide +kernel⟩
theorem d8_compute_40 : jda cX8_compute 40 0 41 := Or.inl ⟨0, by decide +kernel⟩
theorem d8_compute_41 : jda cX8_compute 41 0 42 := Or.inl ⟨0, by decide +kernel⟩
theorem d8_compute_42 : jd cX8_compute 42 (.getfield 21) 3 45 := by decide +kernel
theorem d8_compute_45 : jd cX8_compute 45 (.getfield 35) 3 48 := by decide +kernel
theorem d8_compute_48 : jdi cX8_compute 48 1 49 := Or.inl ⟨1, by decide +kernel⟩
theorem d8_compute_49 : jd cX8_compute 49 (.iaload) 1 50 := by decide +kernel
theorem d8_compute_50 : jd cX8_compute 50 (.invokevirtual 38) 3 53 := by decide +kernel
theorem d8_compute_53 : jd cX8_compute 53 (.iastore) 1 54 := by decide +kernel
theorem d8_compute_54 : jda cX8_compute 54 0 55 := Or.inl ⟨0, by decide +kernel⟩
theorem d8_compute_55 : jdi cX8_compute 55 1 56 := Or.inl ⟨1, by decide +kernel⟩
theorem d8_compute_56 : jd cX8_compute 56 (.invokevirtual 42) 3 59 := by decide +kernel
theorem d8_compute_59 : jd cX8_compute 59 (.iinc 1 (-1)) 3 62 := by decide +kernel
theorem d8_compute_62 : jdb cX8_compute 62 (.goto (-31)) (-31) 31 65 := by decide +kernel
theorem d8_compute_65 : jda cX8_compute 65 0 66 := Or.inl ⟨0, by decide +kernel⟩
theorem d8_compute_66 : jdk cX8_compute 66 0 67 := Or.inl ⟨0, by decide +kernel⟩
theorem d8_compute_67 : jd cX8_compute 67 (.putfield 46) 3 70 := by decide +kernel
theorem d8_compute_70 : jdk cX8_compute 70 0 71 := Or.inl ⟨0, by decide +kernel⟩
theorem d8_compute_71 : jds cX8_compute 71 1 72 := Or.inl ⟨1, by decide +kernel⟩
theorem d8_compute_72 : jdi cX8_compute 72 1 73 := Or.inl ⟨1, by decide +kernel⟩
theorem d8_compute_73 : jdk cX8_compute 73 72 75 := Or.inr (Or.inl ⟨72, by decide +kernel⟩)
theorem d8_compute_75 : jdb cX8_compute 75 (.if_icmp .ge 23) 23 98 78 := by decide +kernel
theorem d8_compute_78 : jda cX8_compute 78 0 79 := Or.inl ⟨0, by decide +kernel⟩
theorem d8_compute_79 : jd cX8_compute 79 (.dup) 1 80 := by decide +kernel
theorem d8_compute_80 : jd cX8_compute 80 (.getfield 46) 3 83 := by decide +kernel
theorem d8_compute_83 : jda cX8_compute 83 0 84 := Or.inl ⟨0, by decide +kernel⟩
theorem d8_compute_84 : jdi cX8_compute 84 1 85 := Or.inl ⟨1, by decide +kernel⟩
theorem d8_compute_85 : jd cX8_compute 85 (.invokevirtual 49) 3 88 := by decide +kernel
theorem d8_compute_88 : jd cX8_compute 88 (.iadd) 1 89 := by decide +kernel
theorem d8_compute_89 : jd cX8_compute 89 (.putfield 46) 3 92 := by decide +kernel
theorem d8_compute_92 : jd cX8_compute 92 (.iinc 1 1) 3 95 := by decide +kernel
theorem d8_compute_95 : jdb cX8_compute 95 (.goto (-23)) (-23) 72 98 := by decide +kernel
theorem d8_compute_98 : decode cX8_compute 98 = .ok (.return_, 1) := by decide +kernel
set_option maxHeartbeats 4000000 in
set_option maxRecDepth 100000 in
theorem wX8_compute_72 {X : jC} {tc : jTC} (C : jx X cX8_compute 2 RX8 none tc ({ frames := 4, cells := 0, slots := 0, locals := 88 } : Room)) (h_ h_rules h_rules_codes h_sets h_sets_first h_sets_follow h_select h_possible h_lowest : Nat) (g_sets_begins : Value) (c_rules_codes : (Nat → Int32)) (c_rules_count : Int32) (c_sets_nullable : Int32) (c_sets_first : (Nat → Int32)) (c_sets_follow : (Nat → Int32)) (v3 : (Nat → Int32) × (Nat → Int32) × (Nat → Int32)) (k5 : (Int32 → Option ((Nat → Int32) × (Nat → Int32) × (Nat → Int32) × Int32))) (hk5 : ∀ w11 : Int32, jo X 2 (0, 0) (jQV X (fun (u : (Nat → Int32) × (Nat → Int32) × (Nat → Int32) × Int32) => [(h_, .inr (8, [.ref h_rules, .ref h_sets, .ref h_select, .ref h_possible, .ref h_lowest, .int u.2.2.2])), (h_rules, .inr (6, [.ref h_rules_codes, .int c_rules_count])), (h_rules_codes, .inl (tc.1, 24, .inl c_rules_codes)), (h_sets, .inr (7, [.int c_sets_nullable, .ref h_sets_first, .ref h_sets_follow, g_sets_begins])), (h_sets_first, .inl (tc.1, 8, .inl c_sets_first)), (h_sets_follow, .inl (tc.1, 8, .inl c_sets_follow)), (h_select, .inl (tc.1, 24, .inl u.1)), (h_possible, .inl (tc.1, 72, .inl u.2.1)), (h_lowest, .inl (tc.1, 72, .inl u.2.2.1))])) (k5 w11) [(h_, .inr (8, [.ref h_rules, .ref h_sets, .ref h_select, .ref h_possible, .ref h_lowest, .int w11])), (h_rules, .inr (6, [.ref h_rules_codes, .int c_rules_count])), (h_rules_codes, .inl (tc.1, 24, .inl c_rules_codes)), (h_sets, .inr (7, [.int c_sets_nullable, .ref h_sets_first, .ref h_sets_follow, g_sets_begins])), (h_sets_first, .inl (tc.1, 8, .inl c_sets_first)), (h_sets_follow, .inl (tc.1, 8, .inl c_sets_follow)), (h_select, .inl (tc.1, 24, .inl v3.1)), (h_possible, .inl (tc.1, 72, .inl v3.2.1)), (h_lowest, .inl (tc.1, 72, .inl v3.2.2))] 98 [] []) (rc7 : Int32 × Int32 → Option ((Nat → Int32) × (Nat → Int32) × (Nat → Int32) × Int32)) (hrc7 : ∀ v6 : Int32 × Int32, jo X 2 (0, 0) (jQV X (fun (u : (Nat → Int32) × (Nat → Int32) × (Nat → Int32) × Int32) => [(h_, .inr (8, [.ref h_rules, .ref h_sets, .ref h_select, .ref h_possible, .ref h_lowest, .int u.2.2.2])), (h_rules, .inr (6, [.ref h_rules_codes, .int c_rules_count])), (h_rules_codes, .inl (tc.1, 24, .inl c_rules_codes)), (h_sets, .inr (7, [.int c_sets_nullable, .ref h_sets_first, .ref h_sets_follow, g_sets_begins])), (h_sets_first, .inl (tc.1, 8, .inl c_sets_first)), (h_sets_follow, .inl (tc.1, 8, .inl c_sets_follow)), (h_select, .inl (tc.1, 24, .inl u.1)), (h_possible, .inl (tc.1, 72, .inl u.2.1)), (h_lowest, .inl (tc.1, 72, .inl u.2.2.1))])) (rc7 v6) [(h_, .inr (8, [.ref h_rules, .ref h_sets, .ref h_select, .ref h_possible, .ref h_lowest, .int v6.2])), (h_rules, .inr (6, [.ref h_rules_codes, .int c_rules_count])), (h_rules_codes, .inl (tc.1, 24, .inl c_rules_codes)), (h_sets, .inr (7, [.int c_sets_nullable, .ref h_sets_first, .ref h_sets_follow, g_sets_begins])), (h_sets_first, .inl (tc.1, 8, .inl c_sets_first)), (h_sets_follow, .inl (tc.1, 8, .inl c_sets_follow)), (h_select, .inl (tc.1, 24, .inl v3.1)), (h_possible, .inl (tc.1, 72, .inl v3.2.1)), (h_lowest, .inl (tc.1, 72, .inl v3.2.2))] 72 [(0, .ref h_), (1, .int v6.1)] []) (v6 : Int32 × Int32) : jo X 2 (0, 0) (jQV X (fun (u : (Nat → Int32) × (Nat → Int32) × (Nat → Int32) × Int32) => [(h_, .inr (8, [.ref h_rules, .ref h_sets, .ref h_select, .ref h_possible, .ref h_lowest, .int u.2.2.2])), (h_rules, .inr (6, [.ref h_rules_codes, .int c_rules_count])), (h_rules_codes, .inl (tc.1, 24, .inl c_rules_codes)), (h_sets, .inr (7, [.int c_sets_nullable, .ref h_sets_first, .ref h_sets_follow, g_sets_begins])), (h_sets_first, .inl (tc.1, 8, .inl c_sets_first)), (h_sets_follow, .inl (tc.1, 8, .inl c_sets_follow)), (h_select, .inl (tc.1, 24, .inl u.1)), (h_possible, .inl (tc.1, 72, .inl u.2.1)), (h_lowest, .inl (tc.1, 72, .inl u.2.2.1))])) (bX8_compute_72 v3 k5 rc7 v6) [(h_, .inr (8, [.ref h_rules, .ref h_sets, .ref h_select, .ref h_possible, .ref h_lowest, .int v6.2])), (h_rules, .inr (6, [.ref h_rules_codes, .int c_rules_count])), (h_rules_codes, .inl (tc.1, 24, .inl c_rules_codes)), (h_sets, .inr (7, [.int c_sets_nullable, .ref h_sets_first, .ref h_sets_follow, g_sets_begins])), (h_sets_first, .inl (tc.1, 8, .inl c_sets_first)), (h_sets_follow, .inl (tc.1, 8, .inl c_sets_follow)), (h_select, .inl (tc.1, 24, .inl v3.1)), (h_possible, .inl (tc.1, 72, .inl v3.2.1)), (h_lowest, .inl (tc.1, 72, .inl v3.2.2))] 72 [(0, .ref h_), (1, .int v6.1)] [] := by
  unfold bX8_compute_72
  refine j_iload C d8_compute_72 1 rfl ?_
  refine j_const C d8_compute_73 ?_
  refine j_icmp_ge C d8_compute_75 ?_ ?_
  · exact j_sub [] rfl (hk5 _)
  · refine j_aload C d8_compute_78 0 rfl ?_
    refine j_dup C d8_compute_79 rfl ?_
    refine j_get C d8_compute_80 fl8_46 0 rfl rfl ?_
    refine j_aload C d8_compute_83 0 rfl ?_
    refine j_iload C d8_compute_84 1 rfl ?_
    refine j_callVI0 (As := [.int v6.1]) C d8_compute_85 mv8_49 (kX8_pairsIn _ _ tc h_ h_possible (.ref h_rules) (.ref h_sets) (.ref h_select) (.ref h_lowest) (.int v6.2) v3.2.1 v6.1) ⟨rfl, rfl, Nat.le_of_ble_eq_true rfl, Nat.le_of_ble_eq_true rfl⟩ rfl 0 rfl [0, 7] rfl rfl rfl (Nat.le_of_ble_eq_true rfl) (fun x8 => ?_)
    refine j_iadd C d8_compute_88 ?_
    refine j_leti (fun x9 => ?_)
    refine j_putq C d8_compute_89 fq8_46 0 rfl rfl rfl (Nat.le_of_ble_eq_true rfl) (ws' := [(h_, .inr (8, [.ref h_rules, .ref h_sets, .ref h_select, .ref h_possible, .ref h_lowest, .int x9])), (h_rules, .inr (6, [.ref h_rules_codes, .int c_rules_count])), (h_rules_codes, .inl (tc.1, 24, .inl c_rules_codes)), (h_sets, .inr (7, [.int c_sets_nullable, .ref h_sets_first, .ref h_sets_follow, g_sets_begins])), (h_sets_first, .inl (tc.1, 8, .inl c_sets_first)), (h_sets_follow, .inl (tc.1, 8, .inl c_sets_follow)), (h_select, .inl (tc.1, 24, .inl v3.1)), (h_possible, .inl (tc.1, 72, .inl v3.2.1)), (h_lowest, .inl (tc.1, 72, .inl v3.2.2))]) rfl ?_
    refine j_iincN C (fun x10 => [(1, .int x10), (0, .ref h_)]) d8_compute_92 1 rfl (by decide +kernel) (by decide) (fun _ => rfl) (fun x10 => ?_)
    refine j_goto C d8_compute_95 ?_
    exact j_sub [1, 0] rfl (hrc7 _)

set_option maxHeartbeats 4000000 in
set_option maxRecDepth 100000 in
theorem wX8_compute_31 {X : jC} {tc : jTC} (C : jx X cX8_compute 2 RX8 none tc ({ frames := 4, cells := 0, slots := 0, locals := 88 } : Room)) (N : Nat) (h_ h_rules h_rules_codes h_sets h_sets_first h_sets_follow h_select h_possible h_lowest : Nat) (g_sets_begins : Value) (c_rules_codes : (Nat → Int32)) (c_rules_count : Int32) (c_sets_nullable : Int32) (c_sets_first : (Nat → Int32)) (c_sets_follow : (Nat → Int32)) (c_conflicts : Int32) (k12 : ((Nat → Int32) × (Nat → Int32) × (Nat → Int32) → Option ((Nat → Int32) × (Nat → Int32) × (Nat → Int32) × Int32))) (hk12 : ∀ w20 : (Nat → Int32) × (Nat → Int32) × (Nat → Int32), jo X 2 (0, 0) (jQV X (fun (u : (Nat → Int32) × (Nat → Int32) × (Nat → Int32) × Int32) => [(h_, .inr (8, [.ref h_rules, .ref h_sets, .ref h_select, .ref h_possible, .ref h_lowest, .int u.2.2.2])), (h_rules, .inr (6, [.ref h_rules_codes, .int c_rules_count])), (h_rules_codes, .inl (tc.1, 24, .inl c_rules_codes)), (h_sets, .inr (7, [.int c_sets_nullable, .ref h_sets_first, .ref h_sets_follow, g_sets_begins])), (h_sets_first, .inl (tc.1, 8, .inl c_sets_first)), (h_sets_follow, .inl (tc.1, 8, .inl c_sets_follow)), (h_select, .inl (tc.1, 24, .inl u.1)), (h_possible, .inl (tc.1, 72, .inl u.2.1)), (h_lowest, .inl (tc.1, 72, .inl u.2.2.1))])) (k12 w20) [(h_, .inr (8, [.ref h_rules, .ref h_sets, .ref h_select, .ref h_possible, .ref h_lowest, .int c_conflicts])), (h_rules, .inr (6, [.ref h_rules_codes, .int c_rules_count])), (h_rules_codes, .inl (tc.1, 24, .inl c_rules_codes)), (h_sets, .inr (7, [.int c_sets_nullable, .ref h_sets_first, .ref h_sets_follow, g_sets_begins])), (h_sets_first, .inl (tc.1, 8, .inl c_sets_first)), (h_sets_follow, .inl (tc.1, 8, .inl c_sets_follow)), (h_select, .inl (tc.1, 24, .inl w20.1)), (h_possible, .inl (tc.1, 72, .inl w20.2.1)), (h_lowest, .inl (tc.1, 72, .inl w20.2.2))] 65 [(0, .ref h_)] []) (rc14 : Int32 × (Nat → Int32) × (Nat → Int32) × (Nat → Int32) → Option ((Nat → Int32) × (Nat → Int32) × (Nat → Int32) × Int32)) (hrc14 : ∀ v13 : Int32 × (Nat → Int32) × (Nat → Int32) × (Nat → Int32), jo X 2 (0, 0) (jQV X (fun (u : (Nat → Int32) × (Nat → Int32) × (Nat → Int32) × Int32) => [(h_, .inr (8, [.ref h_rules, .ref h_sets, .ref h_select, .ref h_possible, .ref h_lowest, .int u.2.2.2])), (h_rules, .inr (6, [.ref h_rules_codes, .int c_rules_count])), (h_rules_codes, .inl (tc.1, 24, .inl c_rules_codes)), (h_sets, .inr (7, [.int c_sets_nullable, .ref h_sets_first, .ref h_sets_follow, g_sets_begins])), (h_sets_first, .inl (tc.1, 8, .inl c_sets_first)), (h_sets_follow, .inl (tc.1, 8, .inl c_sets_follow)), (h_select, .inl (tc.1, 24, .inl u.1)), (h_possible, .inl (tc.1, 72, .inl u.2.1)), (h_lowest, .inl (tc.1, 72, .inl u.2.2.1))])) (rc14 v13) [(h_, .inr (8, [.ref h_rules, .ref h_sets, .ref h_select, .ref h_possible, .ref h_lowest, .int c_conflicts])), (h_rules, .inr (6, [.ref h_rules_codes, .int c_rules_count])), (h_rules_codes, .inl (tc.1, 24, .inl c_rules_codes)), (h_sets, .inr (7, [.int c_sets_nullable, .ref h_sets_first, .ref h_sets_follow, g_sets_begins])), (h_sets_first, .inl (tc.1, 8, .inl c_sets_first)), (h_sets_follow, .inl (tc.1, 8, .inl c_sets_follow)), (h_select, .inl (tc.1, 24, .inl v13.2.1)), (h_possible, .inl (tc.1, 72, .inl v13.2.2.1)), (h_lowest, .inl (tc.1, 72, .inl v13.2.2.2))] 31 [(0, .ref h_), (1, .int v13.1)] []) (v13 : Int32 × (Nat → Int32) × (Nat → Int32) × (Nat → Int32)) : jo X 2 (0, 0) (jQV X (fun (u : (Nat → Int32) × (Nat → Int32) × (Nat → Int32) × Int32) => [(h_, .inr (8, [.ref h_rules, .ref h_sets, .ref h_select, .ref h_possible, .ref h_lowest, .int u.2.2.2])), (h_rules, .inr (6, [.ref h_rules_codes, .int c_rules_count])), (h_rules_codes, .inl (tc.1, 24, .inl c_rules_codes)), (h_sets, .inr (7, [.int c_sets_nullable, .ref h_sets_first, .ref h_sets_follow, g_sets_begins])), (h_sets_first, .inl (tc.1, 8, .inl c_sets_first)), (h_sets_follow, .inl (tc.1, 8, .inl c_sets_follow)), (h_select, .inl (tc.1, 24, .inl u.1)), (h_possible, .inl (tc.1, 72, .inl u.2.1)), (h_lowest, .inl (tc.1, 72, .inl u.2.2.1))])) (bX8_compute_31 N c_rules_codes c_sets_nullable c_sets_first c_sets_follow k12 rc14 v13) [(h_, .inr (8, [.ref h_rules, .ref h_sets, .ref h_select, .ref h_possible, .ref h_lowest, .int c_conflicts])), (h_rules, .inr (6, [.ref h_rules_codes, .int c_rules_count])), (h_rules_codes, .inl (tc.1, 24, .inl c_rules_codes)), (h_sets, .inr (7, [.int c_sets_nullable, .ref h_sets_first, .ref h_sets_follow, g_sets_begins])), (h_sets_first, .inl (tc.1, 8, .inl c_sets_first)), (h_sets_follow, .inl (tc.1, 8, .inl c_sets_follow)), (h_select, .inl (tc.1, 24, .inl v13.2.1)), (h_possible, .inl (tc.1, 72, .inl v13.2.2.1)), (h_lowest, .inl (tc.1, 72, .inl v13.2.2.2))] 31 [(0, .ref h_), (1, .int v13.1)] [] := by
  unfold bX8_compute_31
  refine j_iload C d8_compute_31 1 rfl ?_
  refine j_if_lt C d8_compute_32 ?_ ?_
  · exact j_sub [0] rfl (hk12 _)
  · refine j_aload C d8_compute_35 0 rfl ?_
    refine j_get C d8_compute_36 fl8_9 0 rfl rfl ?_
    refine j_iload C d8_compute_39 1 rfl ?_
    refine j_aload C d8_compute_40 0 rfl ?_
    refine j_aload C d8_compute_41 0 rfl ?_
    refine j_get C d8_compute_42 fl8_21 0 rfl rfl ?_
    refine j_get C d8_compute_45 fl8_35 1 rfl rfl ?_
    refine j_iload C d8_compute_48 1 rfl ?_
    refine j_iald C d8_compute_49 2 rfl (fun x15 => ?_)
    refine j_callVI0 (As := [.int x15]) C d8_compute_50 mv8_38 (kX8_selectOf _ _ tc N h_ h_sets h_sets_first h_sets_follow (.ref h_rules) (.ref h_select) (.ref h_possible) (.ref h_lowest) (.int c_conflicts) g_sets_begins c_sets_nullable c_sets_first c_sets_follow x15) ⟨rfl, rfl, Nat.le_of_ble_eq_true rfl, Nat.le_of_ble_eq_true rfl⟩ rfl 0 rfl [0, 3, 4, 5] rfl rfl rfl (Nat.le_of_ble_eq_true rfl) (fun x16 => ?_)
    refine j_iast C (fun f17 => [(h_, .inr (8, [.ref h_rules, .ref h_sets, .ref h_select, .ref h_possible, .ref h_lowest, .int c_conflicts])), (h_rules, .inr (6, [.ref h_rules_codes, .int c_rules_count])), (h_rules_codes, .inl (tc.1, 24, .inl c_rules_codes)), (h_sets, .inr (7, [.int c_sets_nullable, .ref h_sets_first, .ref h_sets_follow, g_sets_begins])), (h_sets_first, .inl (tc.1, 8, .inl c_sets_first)), (h_sets_follow, .inl (tc.1, 8, .inl c_sets_follow)), (h_select, .inl (tc.1, 24, .inl f17)), (h_possible, .inl (tc.1, 72, .inl v13.2.2.1)), (h_lowest, .inl (tc.1, 72, .inl v13.2.2.2))]) d8_compute_53 6 rfl (fun _ => rfl) (fun f17 => ?_)
    refine j_aload C d8_compute_54 0 rfl ?_
    refine j_iload C d8_compute_55 1 rfl ?_
    refine j_callVV (As := [.int v13.1]) C d8_compute_56 mv8_42 (kX8_enter _ _ tc N h_ h_rules h_rules_codes h_select h_possible h_lowest (.ref h_sets) (.int c_conflicts) (.int c_rules_count) c_rules_codes f17 v13.2.2.1 v13.2.2.2 v13.1) ⟨rfl, rfl, Nat.le_of_ble_eq_true rfl, Nat.le_of_ble_eq_true rfl⟩ rfl 0 rfl [0, 1, 2, 6, 7, 8] rfl rfl rfl (Nat.le_of_ble_eq_true rfl) (fun u => [(h_, .inr (8, [.ref h_rules, .ref h_sets, .ref h_select, .ref h_possible, .ref h_lowest, .int c_conflicts])), (h_rules, .inr (6, [.ref h_rules_codes, .int c_rules_count])), (h_rules_codes, .inl (tc.1, 24, .inl c_rules_codes)), (h_sets, .inr (7, [.int c_sets_nullable, .ref h_sets_first, .ref h_sets_follow, g_sets_begins])), (h_sets_first, .inl (tc.1, 8, .inl c_sets_first)), (h_sets_follow, .inl (tc.1, 8, .inl c_sets_follow)), (h_select, .inl (tc.1, 24, .inl f17)), (h_possible, .inl (tc.1, 72, .inl u.1)), (h_lowest, .inl (tc.1, 72, .inl u.2))]) (fun _ => rfl) (fun _ => rfl) (fun _ => rfl) (fun o18 => ?_)
    refine j_iincN C (fun x19 => [(1, .int x19), (0, .ref h_)]) d8_compute_59 1 rfl (by decide +kernel) (by decide) (fun _ => rfl) (fun x19 => ?_)
    refine j_goto C d8_compute_62 ?_
    exact j_sub [1, 0] rfl (hrc14 _)

set_option maxHeartbeats 4000000 in
set_option maxRecDepth 100000 in
theorem wX8_compute_2 {X : jC} {tc : jTC} (C : jx X cX8_compute 2 RX8 none tc ({ frames := 4, cells := 0, slots := 0, locals := 88 } : Room)) (h_ h_rules h_rules_codes h_sets h_sets_first h_sets_follow h_select h_possible h_lowest : Nat) (g_sets_begins : Value) (c_rules_codes : (Nat → Int32)) (c_rules_count : Int32) (c_sets_nullable : Int32) (c_sets_first : (Nat → Int32)) (c_sets_follow : (Nat → Int32)) (c_select : (Nat → Int32)) (c_lowest : (Nat → Int32)) (c_conflicts : Int32) (k21 : ((Nat → Int32) → Option ((Nat → Int32) × (Nat → Int32) × (Nat → Int32) × Int32))) (hk21 : ∀ w26 : (Nat → Int32), jo X 2 (0, 0) (jQV X (fun (u : (Nat → Int32) × (Nat → Int32) × (Nat → Int32) × Int32) => [(h_, .inr (8, [.ref h_rules, .ref h_sets, .ref h_select, .ref h_possible, .ref h_lowest, .int u.2.2.2])), (h_rules, .inr (6, [.ref h_rules_codes, .int c_rules_count])), (h_rules_codes, .inl (tc.1, 24, .inl c_rules_codes)), (h_sets, .inr (7, [.int c_sets_nullable, .ref h_sets_first, .ref h_sets_follow, g_sets_begins])), (h_sets_first, .inl (tc.1, 8, .inl c_sets_first)), (h_sets_follow, .inl (tc.1, 8, .inl c_sets_follow)), (h_select, .inl (tc.1, 24, .inl u.1)), (h_possible, .inl (tc.1, 72, .inl u.2.1)), (h_lowest, .inl (tc.1, 72, .inl u.2.2.1))])) (k21 w26) [(h_, .inr (8, [.ref h_rules, .ref h_sets, .ref h_select, .ref h_possible, .ref h_lowest, .int c_conflicts])), (h_rules, .inr (6, [.ref h_rules_codes, .int c_rules_count])), (h_rules_codes, .inl (tc.1, 24, .inl c_rules_codes)), (h_sets, .inr (7, [.int c_sets_nullable, .ref h_sets_first, .ref h_sets_follow, g_sets_begins])), (h_sets_first, .inl (tc.1, 8, .inl c_sets_first)), (h_sets_follow, .inl (tc.1, 8, .inl c_sets_follow)), (h_select, .inl (tc.1, 24, .inl c_select)), (h_possible, .inl (tc.1, 72, .inl w26)), (h_lowest, .inl (tc.1, 72, .inl c_lowest))] 21 [(0, .ref h_)] []) (rc23 : Int32 × (Nat → Int32) → Option ((Nat → Int32) × (Nat → Int32) × (Nat → Int32) × Int32)) (hrc23 : ∀ v22 : Int32 × (Nat → Int32), jo X 2 (0, 0) (jQV X (fun (u : (Nat → Int32) × (Nat → Int32) × (Nat → Int32) × Int32) => [(h_, .inr (8, [.ref h_rules, .ref h_sets, .ref h_select, .ref h_possible, .ref h_lowest, .int u.2.2.2])), (h_rules, .inr (6, [.ref h_rules_codes, .int c_rules_count])), (h_rules_codes, .inl (tc.1, 24, .inl c_rules_codes)), (h_sets, .inr (7, [.int c_sets_nullable, .ref h_sets_first, .ref h_sets_follow, g_sets_begins])), (h_sets_first, .inl (tc.1, 8, .inl c_sets_first)), (h_sets_follow, .inl (tc.1, 8, .inl c_sets_follow)), (h_select, .inl (tc.1, 24, .inl u.1)), (h_possible, .inl (tc.1, 72, .inl u.2.1)), (h_lowest, .inl (tc.1, 72, .inl u.2.2.1))])) (rc23 v22) [(h_, .inr (8, [.ref h_rules, .ref h_sets, .ref h_select, .ref h_possible, .ref h_lowest, .int c_conflicts])), (h_rules, .inr (6, [.ref h_rules_codes, .int c_rules_count])), (h_rules_codes, .inl (tc.1, 24, .inl c_rules_codes)), (h_sets, .inr (7, [.int c_sets_nullable, .ref h_sets_first, .ref h_sets_follow, g_sets_begins])), (h_sets_first, .inl (tc.1, 8, .inl c_sets_first)), (h_sets_follow, .inl (tc.1, 8, .inl c_sets_follow)), (h_select, .inl (tc.1, 24, .inl c_select)), (h_possible, .inl (tc.1, 72, .inl v22.2)), (h_lowest, .inl (tc.1, 72, .inl c_lowest))] 2 [(0, .ref h_), (1, .int v22.1)] []) (v22 : Int32 × (Nat → Int32)) : jo X 2 (0, 0) (jQV X (fun (u : (Nat → Int32) × (Nat → Int32) × (Nat → Int32) × Int32) => [(h_, .inr (8, [.ref h_rules, .ref h_sets, .ref h_select, .ref h_possible, .ref h_lowest, .int u.2.2.2])), (h_rules, .inr (6, [.ref h_rules_codes, .int c_rules_count])), (h_rules_codes, .inl (tc.1, 24, .inl c_rules_codes)), (h_sets, .inr (7, [.int c_sets_nullable, .ref h_sets_first, .ref h_sets_follow, g_sets_begins])), (h_sets_first, .inl (tc.1, 8, .inl c_sets_first)), (h_sets_follow, .inl (tc.1, 8, .inl c_sets_follow)), (h_select, .inl (tc.1, 24, .inl u.1)), (h_possible, .inl (tc.1, 72, .inl u.2.1)), (h_lowest, .inl (tc.1, 72, .inl u.2.2.1))])) (bX8_compute_2 k21 rc23 v22) [(h_, .inr (8, [.ref h_rules, .ref h_sets, .ref h_select, .ref h_possible, .ref h_lowest, .int c_conflicts])), (h_rules, .inr (6, [.ref h_rules_codes, .int c_rules_count])), (h_rules_codes, .inl (tc.1, 24, .inl c_rules_codes)), (h_sets, .inr (7, [.int c_sets_nullable, .ref h_sets_first, .ref h_sets_follow, g_sets_begins])), (h_sets_first, .inl (tc.1, 8, .inl c_sets_first)), (h_sets_follow, .inl (tc.1, 8, .inl c_sets_follow)), (h_select, .inl (tc.1, 24, .inl c_select)), (h_possible, .inl (tc.1, 72, .inl v22.2)), (h_lowest, .inl (tc.1, 72, .inl c_lowest))] 2 [(0, .ref h_), (1, .int v22.1)] [] := by
  unfold bX8_compute_2
  refine j_iload C d8_compute_2 1 rfl ?_
  refine j_const C d8_compute_3 ?_
  refine j_icmp_ge C d8_compute_5 ?_ ?_
  · exact j_sub [0] rfl (hk21 _)
  · refine j_aload C d8_compute_8 0 rfl ?_
    refine j_get C d8_compute_9 fl8_15 0 rfl rfl ?_
    refine j_iload C d8_compute_12 1 rfl ?_
    refine j_const C d8_compute_13 ?_
    refine j_iast C (fun f24 => [(h_, .inr (8, [.ref h_rules, .ref h_sets, .ref h_select, .ref h_possible, .ref h_lowest, .int c_conflicts])), (h_rules, .inr (6, [.ref h_rules_codes, .int c_rules_count])), (h_rules_codes, .inl (tc.1, 24, .inl c_rules_codes)), (h_sets, .inr (7, [.int c_sets_nullable, .ref h_sets_first, .ref h_sets_follow, g_sets_begins])), (h_sets_first, .inl (tc.1, 8, .inl c_sets_first)), (h_sets_follow, .inl (tc.1, 8, .inl c_sets_follow)), (h_select, .inl (tc.1, 24, .inl c_select)), (h_possible, .inl (tc.1, 72, .inl f24)), (h_lowest, .inl (tc.1, 72, .inl c_lowest))]) d8_compute_14 7 rfl (fun _ => rfl) (fun f24 => ?_)
    refine j_iincN C (fun x25 => [(1, .int x25), (0, .ref h_)]) d8_compute_15 1 rfl (by decide +kernel) (by decide) (fun _ => rfl) (fun x25 => ?_)
    refine j_goto C d8_compute_18 ?_
    exact j_sub [1, 0] rfl (hrc23 _)

set_option maxHeartbeats 4000000 in
set_option maxRecDepth 100000 in
theorem kX8_compute (l : Launch) (D : va_G) (tc : jTC) (N : Nat) (h_ h_rules h_rules_codes h_sets h_sets_first h_sets_follow h_select h_possible h_lowest : Nat) (g_sets_begins : Value) (c_rules_codes : (Nat → Int32)) (c_rules_count : Int32) (c_sets_nullable : Int32) (c_sets_first : (Nat → Int32)) (c_sets_follow : (Nat → Int32)) (c_select : (Nat → Int32)) (c_possible : (Nat → Int32)) (c_lowest : (Nat → Int32)) (c_conflicts : Int32) : ctV l D tc yX8_compute (Cond.code yX8_compute cX8_compute 2 none :: jtb) ({ frames := 4, cells := 0, slots := 0, locals := 88 } : Room) [.ref h_] [(h_, .inr (8, [.ref h_rules, .ref h_sets, .ref h_select, .ref h_possible, .ref h_lowest, .int c_conflicts])), (h_rules, .inr (6, [.ref h_rules_codes, .int c_rules_count])), (h_rules_codes, .inl (tc.1, 24, .inl c_rules_codes)), (h_sets, .inr (7, [.int c_sets_nullable, .ref h_sets_first, .ref h_sets_follow, g_sets_begins])), (h_sets_first, .inl (tc.1, 8, .inl c_sets_first)), (h_sets_follow, .inl (tc.1, 8, .inl c_sets_follow)), (h_select, .inl (tc.1, 24, .inl c_select)), (h_possible, .inl (tc.1, 72, .inl c_possible)), (h_lowest, .inl (tc.1, 72, .inl c_lowest))] (fX8_compute N c_rules_codes c_rules_count c_sets_nullable c_sets_first c_sets_follow c_select c_possible c_lowest c_conflicts) (fun (u : (Nat → Int32) × (Nat → Int32) × (Nat → Int32) × Int32) => [(h_, .inr (8, [.ref h_rules, .ref h_sets, .ref h_select, .ref h_possible, .ref h_lowest, .int u.2.2.2])), (h_rules, .inr (6, [.ref h_rules_codes, .int c_rules_count])), (h_rules_codes, .inl (tc.1, 24, .inl c_rules_codes)), (h_sets, .inr (7, [.int c_sets_nullable, .ref h_sets_first, .ref h_sets_follow, g_sets_begins])), (h_sets_first, .inl (tc.1, 8, .inl c_sets_first)), (h_sets_follow, .inl (tc.1, 8, .inl c_sets_follow)), (h_select, .inl (tc.1, 24, .inl u.1)), (h_possible, .inl (tc.1, 72, .inl u.2.1)), (h_lowest, .inl (tc.1, 72, .inl u.2.2.1))]) := by
  refine ctV_of (lv0 := [(0, .ref h_)]) (by decide +kernel) (Nat.le_of_ble_eq_true rfl) rfl (fun X C => ?_)
  unfold fX8_compute
  refine j_const C d8_compute_0 ?_
  refine j_istore C d8_compute_1 (by decide) (lv' := [(1, .int 0), (0, .ref h_)]) rfl ?_
  refine j_join 21 (fun v1 => [(h_, .inr (8, [.ref h_rules, .ref h_sets, .ref h_select, .ref h_possible, .ref h_lowest, .int c_conflicts])), (h_rules, .inr (6, [.ref h_rules_codes, .int c_rules_count])), (h_rules_codes, .inl (tc.1, 24, .inl c_rules_codes)), (h_sets, .inr (7, [.int c_sets_nullable, .ref h_sets_first, .ref h_sets_follow, g_sets_begins])), (h_sets_first, .inl (tc.1, 8, .inl c_sets_first)), (h_sets_follow, .inl (tc.1, 8, .inl c_sets_follow)), (h_select, .inl (tc.1, 24, .inl c_select)), (h_possible, .inl (tc.1, 72, .inl v1)), (h_lowest, .inl (tc.1, 72, .inl c_lowest))]) (fun v1 => [(0, .ref h_)]) (fun v1 => []) (fun v1 => ?_) (fun k21 hk21 => ?_)
  · refine j_aload C d8_compute_21 0 rfl ?_
    refine j_get C d8_compute_22 fl8_21 0 rfl rfl ?_
    refine j_get C d8_compute_25 fl8_29 1 rfl rfl ?_
    refine j_const C d8_compute_28 ?_
    refine j_isub C d8_compute_29 ?_
    refine j_leti (fun x2 => ?_)
    refine j_istore C d8_compute_30 (by decide) (lv' := [(1, .int x2), (0, .ref h_)]) rfl ?_
    refine j_join 65 (fun v3 => [(h_, .inr (8, [.ref h_rules, .ref h_sets, .ref h_select, .ref h_possible, .ref h_lowest, .int c_conflicts])), (h_rules, .inr (6, [.ref h_rules_codes, .int c_rules_count])), (h_rules_codes, .inl (tc.1, 24, .inl c_rules_codes)), (h_sets, .inr (7, [.int c_sets_nullable, .ref h_sets_first, .ref h_sets_follow, g_sets_begins])), (h_sets_first, .inl (tc.1, 8, .inl c_sets_first)), (h_sets_follow, .inl (tc.1, 8, .inl c_sets_follow)), (h_select, .inl (tc.1, 24, .inl v3.1)), (h_possible, .inl (tc.1, 72, .inl v3.2.1)), (h_lowest, .inl (tc.1, 72, .inl v3.2.2))]) (fun v3 => [(0, .ref h_)]) (fun v3 => []) (fun v3 => ?_) (fun k12 hk12 => ?_)
    · refine j_aload C d8_compute_65 0 rfl ?_
      refine j_const C d8_compute_66 ?_
      refine j_putq C d8_compute_67 fq8_46 0 rfl rfl rfl (Nat.le_of_ble_eq_true rfl) (ws' := [(h_, .inr (8, [.ref h_rules, .ref h_sets, .ref h_select, .ref h_possible, .ref h_lowest, .int 0])), (h_rules, .inr (6, [.ref h_rules_codes, .int c_rules_count])), (h_rules_codes, .inl (tc.1, 24, .inl c_rules_codes)), (h_sets, .inr (7, [.int c_sets_nullable, .ref h_sets_first, .ref h_sets_follow, g_sets_begins])), (h_sets_first, .inl (tc.1, 8, .inl c_sets_first)), (h_sets_follow, .inl (tc.1, 8, .inl c_sets_follow)), (h_select, .inl (tc.1, 24, .inl v3.1)), (h_possible, .inl (tc.1, 72, .inl v3.2.1)), (h_lowest, .inl (tc.1, 72, .inl v3.2.2))]) rfl ?_
      refine j_const C d8_compute_70 ?_
      refine j_istore C d8_compute_71 (by decide) (lv' := [(1, .int 0), (0, .ref h_)]) rfl ?_
      refine j_join 98 (fun v4 => [(h_, .inr (8, [.ref h_rules, .ref h_sets, .ref h_select, .ref h_possible, .ref h_lowest, .int v4])), (h_rules, .inr (6, [.ref h_rules_codes, .int c_rules_count])), (h_rules_codes, .inl (tc.1, 24, .inl c_rules_codes)), (h_sets, .inr (7, [.int c_sets_nullable, .ref h_sets_first, .ref h_sets_follow, g_sets_begins])), (h_sets_first, .inl (tc.1, 8, .inl c_sets_first)), (h_sets_follow, .inl (tc.1, 8, .inl c_sets_follow)), (h_select, .inl (tc.1, 24, .inl v3.1)), (h_possible, .inl (tc.1, 72, .inl v3.2.1)), (h_lowest, .inl (tc.1, 72, .inl v3.2.2))]) (fun v4 => []) (fun v4 => []) (fun v4 => ?_) (fun k5 hk5 => ?_)
      · exact j_vret C d8_compute_98 rfl
      · exact j_sub [1, 0] rfl (j_loop (fun v6 => [(h_, .inr (8, [.ref h_rules, .ref h_sets, .ref h_select, .ref h_possible, .ref h_lowest, .int v6.2])), (h_rules, .inr (6, [.ref h_rules_codes, .int c_rules_count])), (h_rules_codes, .inl (tc.1, 24, .inl c_rules_codes)), (h_sets, .inr (7, [.int c_sets_nullable, .ref h_sets_first, .ref h_sets_follow, g_sets_begins])), (h_sets_first, .inl (tc.1, 8, .inl c_sets_first)), (h_sets_follow, .inl (tc.1, 8, .inl c_sets_follow)), (h_select, .inl (tc.1, 24, .inl v3.1)), (h_possible, .inl (tc.1, 72, .inl v3.2.1)), (h_lowest, .inl (tc.1, 72, .inl v3.2.2))]) (fun v6 => [(0, .ref h_), (1, .int v6.1)]) (fun rc7 hrc7 v6 => wX8_compute_72 C h_ h_rules h_rules_codes h_sets h_sets_first h_sets_follow h_select h_possible h_lowest g_sets_begins c_rules_codes c_rules_count c_sets_nullable c_sets_first c_sets_follow v3 k5 hk5 rc7 hrc7 v6) N _)
    · exact j_sub [1, 0] rfl (j_loop (fun v13 => [(h_, .inr (8, [.ref h_rules, .ref h_sets, .ref h_select, .ref h_possible, .ref h_lowest, .int c_conflicts])), (h_rules, .inr (6, [.ref h_rules_codes, .int c_rules_count])), (h_rules_codes, .inl (tc.1, 24, .inl c_rules_codes)), (h_sets, .inr (7, [.int c_sets_nullable, .ref h_sets_first, .ref h_sets_follow, g_sets_begins])), (h_sets_first, .inl (tc.1, 8, .inl c_sets_first)), (h_sets_follow, .inl (tc.1, 8, .inl c_sets_follow)), (h_select, .inl (tc.1, 24, .inl v13.2.1)), (h_possible, .inl (tc.1, 72, .inl v13.2.2.1)), (h_lowest, .inl (tc.1, 72, .inl v13.2.2.2))]) (fun v13 => [(0, .ref h_), (1, .int v13.1)]) (fun rc14 hrc14 v13 => wX8_compute_31 C N h_ h_rules h_rules_codes h_sets h_sets_first h_sets_follow h_select h_possible h_lowest g_sets_begins c_rules_codes c_rules_count c_sets_nullable c_sets_first c_sets_follow c_conflicts k12 hk12 rc14 hrc14 v13) N _)
  · exact j_sub [1, 0] rfl (j_loop (fun v22 => [(h_, .inr (8, [.ref h_rules, .ref h_sets, .ref h_select, .ref h_possible, .ref h_lowest, .int c_conflicts])), (h_rules, .inr (6, [.ref h_rules_codes, .int c_rules_count])), (h_rules_codes, .inl (tc.1, 24, .inl c_rules_codes)), (h_sets, .inr (7, [.int c_sets_nullable, .ref h_sets_first, .ref h_sets_follow, g_sets_begins])), (h_sets_first, .inl (tc.1, 8, .inl c_sets_first)), (h_sets_follow, .inl (tc.1, 8, .inl c_sets_follow)), (h_select, .inl (tc.1, 24, .inl c_select)), (h_possible, .inl (tc.1, 72, .inl v22.2)), (h_lowest, .inl (tc.1, 72, .inl c_lowest))]) (fun v22 => [(0, .ref h_), (1, .int v22.1)]) (fun rc23 hrc23 v22 => wX8_compute_2 C h_ h_rules h_rules_codes h_sets h_sets_first h_sets_follow h_select h_possible h_lowest g_sets_begins c_rules_codes c_rules_count c_sets_nullable c_sets_first c_sets_follow c_select c_lowest c_conflicts k21 hk21 rc23 hrc23 v22) N _)

theorem d8_partOf_0 : jdi cX8_partOf 0 0 1 := Or.inl ⟨0, by decide +kernel⟩
theorem d8_partOf_1 : jdk cX8_partOf 1 5 2 := Or.inl ⟨5, by decide +kernel⟩
theorem d8_partOf_2 : jdk cX8_partOf 2 3 3 := Or.inl ⟨3, by decide +kernel⟩
theorem d8_partOf_3 : jdi cX8_partOf 3 1 4 := Or.inl ⟨1, by decide +kernel⟩
theorem d8_partOf_4 : jd cX8_partOf 4 (.isub) 1 5 := by decide +kernel
theorem d8_partOf_5 : jd cX8_partOf 5 (.imul) 1 6 := by decide +kernel
theorem d8_partOf_6 : jd cX8_partOf 6 (.ishr) 1 7 := by decide +kernel
theorem d8_partOf_7 : jdk cX8_partOf 7 31 9 := Or.inr (Or.inl ⟨31, by decide +kernel⟩)
theorem d8_partOf_9 : jd cX8_partOf 9 (.iand) 1 10 := by decide +kernel
theorem d8_partOf_10 : decode cX8_partOf 10 = .ok (.ireturn, 1) := by decide +kernel
set_option maxHeartbeats 4000000 in
set_option maxRecDepth 100000 in
theorem kX8_partOf (l : Launch) (D : va_G) (tc : jTC) (p0 : Int32) (p1 : Int32) : ctI0 l D tc yX8_partOf (Cond.code yX8_partOf cX8_partOf 2 (some .int) :: jtb) ({ frames := 0, cells := 0, slots := 0, locals := 0 } : Room) [.int p0, .int p1] [] (fX8_partOf p0 p1) := by
  refine ctI0_of (lv0 := [(0, .int p0), (1, .int p1)]) (by decide +kernel) (Nat.le_of_ble_eq_true rfl) rfl (fun X C => ?_)
  unfold fX8_partOf
  refine j_iload C d8_partOf_0 0 rfl ?_
  refine j_const C d8_partOf_1 ?_
  refine j_const C d8_partOf_2 ?_
  refine j_iload C d8_partOf_3 1 rfl ?_
  refine j_isub C d8_partOf_4 ?_
  refine j_imul C d8_partOf_5 ?_
  refine j_ishr C d8_partOf_6 ?_
  refine j_const C d8_partOf_7 ?_
  refine j_iand C d8_partOf_9 ?_
  exact j_iret0 C d8_partOf_10

theorem d8_conflictOf_0 : jdi cX8_conflictOf 0 0 1 := Or.inl ⟨0, by decide +kernel⟩
theorem d8_conflictOf_1 : jdk cX8_conflictOf 1 9 3 := Or.inr (Or.inl ⟨9, by decide +kernel⟩)
theorem d8_conflictOf_3 : jd cX8_conflictOf 3 (.idiv) 1 4 := by decide +kernel
theorem d8_conflictOf_4 : jdk cX8_conflictOf 4 5 5 := Or.inl ⟨5, by decide +kernel⟩
theorem d8_conflictOf_5 : jd cX8_conflictOf 5 (.ishl) 1 6 := by decide +kernel
theorem d8_conflictOf_6 : jdi cX8_conflictOf 6 0 7 := Or.inl ⟨0, by decide +kernel⟩
theorem d8_conflictOf_7 : jdk cX8_conflictOf 7 9 9 := Or.inr (Or.inl ⟨9, by decide +kernel⟩)
theorem d8_conflictOf_9 : jd cX8_conflictOf 9 (.irem) 1 10 := by decide +kernel
theorem d8_conflictOf_10 : jd cX8_conflictOf 10 (.ior) 1 11 := by decide +kernel
theorem d8_conflictOf_11 : jds cX8_conflictOf 11 3 12 := Or.inl ⟨3, by decide +kernel⟩
theorem d8_conflictOf_12 : jdi cX8_conflictOf 12 3 13 := Or.inl ⟨3, by decide +kernel⟩
theorem d8_conflictOf_13 : jdk cX8_conflictOf 13 5 14 := Or.inl ⟨5, by decide +kernel⟩
theorem d8_conflictOf_14 : jd cX8_conflictOf 14 (.ishl) 1 15 := by decide +kernel
theorem d8_conflictOf_15 : jdi cX8_conflictOf 15 1 16 := Or.inl ⟨1, by decide +kernel⟩
theorem d8_conflictOf_16 : jd cX8_conflictOf 16 (.ior) 1 17 := by decide +kernel
theorem d8_conflictOf_17 : jdk cX8_conflictOf 17 5 18 := Or.inl ⟨5, by decide +kernel⟩
theorem d8_conflictOf_18 : jd cX8_conflictOf 18 (.ishl) 1 19 := by decide +kernel
theorem d8_conflictOf_19 : jdi cX8_conflictOf 19 2 20 := Or.inl ⟨2, by decide +kernel⟩
theorem d8_conflictOf_20 : jd cX8_conflictOf 20 (.ior) 1 21 := by decide +kernel
theorem d8_conflictOf_21 : decode cX8_conflictOf 21 = .ok (.ireturn, 1) := by decide +kernel
set_option maxHeartbeats 4000000 in
set_option maxRecDepth 100000 in
theorem kX8_conflictOf (l : Launch) (D : va_G) (tc : jTC) (p0 : Int32) (p1 : Int32) (p2 : Int32) : ctI0 l D tc yX8_conflictOf (Cond.code yX8_conflictOf cX8_conflictOf 4 (some .int) :: jtb) ({ frames := 0, cells := 0, slots := 0, locals := 0 } : Room) [.int p0, .int p1, .int p2] [] (fX8_conflictOf p0 p1 p2) := by
  refine ctI0_of (lv0 := [(0, .int p0), (1, .int p1), (2, .int p2)]) (by decide +kernel) (Nat.le_of_ble_eq_true rfl) rfl (fun X C => ?_)
  unfold fX8_conflictOf
  refine j_iload C d8_conflictOf_0 0 rfl ?_
  refine j_const C d8_conflictOf_1 ?_
  refine j_idiv C d8_conflictOf_3 (by decide) ?_
  refine j_const C d8_conflictOf_4 ?_
  refine j_ishl C d8_conflictOf_5 ?_
  refine j_iload C d8_conflictOf_6 0 rfl ?_
  refine j_const C d8_conflictOf_7 ?_
  refine j_irem C d8_conflictOf_9 (by decide) ?_
  refine j_ior C d8_conflictOf_10 ?_
  refine j_leti (fun x1 => ?_)
  refine j_istore C d8_conflictOf_11 (by decide) (lv' := [(3, .int x1), (0, .int p0), (1, .int p1), (2, .int p2)]) rfl ?_
  refine j_iload C d8_conflictOf_12 0 rfl ?_
  refine j_const C d8_conflictOf_13 ?_
  refine j_ishl C d8_conflictOf_14 ?_
  refine j_iload C d8_conflictOf_15 2 rfl ?_
  refine j_ior C d8_conflictOf_16 ?_
  refine j_const C d8_conflictOf_17 ?_
  refine j_ishl C d8_conflictOf_18 ?_
  refine j_iload C d8_conflictOf_19 3 rfl ?_
  refine j_ior C d8_conflictOf_20 ?_
  exact j_iret0 C d8_conflictOf_21

theorem d8_isPossible_0 : jda cX8_isPossible 0 0 1 := Or.inl ⟨0, by decide +kernel⟩
theorem d8_isPossible_1 : jd cX8_isPossible 1 (.getfield 21) 3 4 := by decide +kernel
theorem d8_isPossible_4 : jd cX8_isPossible 4 (.getfield 35) 3 7 := by decide +kernel
theorem d8_isPossible_7 : jdi cX8_isPossible 7 1 8 := Or.inl ⟨1, by decide +kernel⟩
theorem d8_isPossible_8 : jd cX8_isPossible 8 (.iaload) 1 9 := by decide +kernel
theorem d8_isPossible_9 : jdi cX8_isPossible 9 2 10 := Or.inl ⟨2, by decide +kernel⟩
theorem d8_isPossible_10 : jdk cX8_isPossible 10 9 12 := Or.inr (Or.inl ⟨9, by decide +kernel⟩)
theorem d8_isPossible_12 : jd cX8_isPossible 12 (.idiv) 1 13 := by decide +kernel
theorem d8_isPossible_13 : jd cX8_isPossible 13 (.invokestatic 81) 3 16 := by decide +kernel
theorem d8_isPossible_16 : jdb cX8_isPossible 16 (.ifCond .eq 24) 24 40 19 := by decide +kernel
theorem d8_isPossible_19 : jda cX8_isPossible 19 0 20 := Or.inl ⟨0, by decide +kernel⟩
theorem d8_isPossible_20 : jd cX8_isPossible 20 (.getfield 9) 3 23 := by decide +kernel
theorem d8_isPossible_23 : jdi cX8_isPossible 23 1 24 := Or.inl ⟨1, by decide +kernel⟩
theorem d8_isPossible_24 : jd cX8_isPossible 24 (.iaload) 1 25 := by decide +kernel
theorem d8_isPossible_25 : jdi cX8_isPossible 25 2 26 := Or.inl ⟨2, by decide +kernel⟩
theorem d8_isPossible_26 : jdk cX8_isPossible 26 9 28 := Or.inr (Or.inl ⟨9, by decide +kernel⟩)
theorem d8_isPossible_28 : jd cX8_isPossible 28 (.irem) 1 29 := by decide +kernel
theorem d8_isPossible_29 : jd cX8_isPossible 29 (.invokestatic 68) 3 32 := by decide +kernel
theorem d8_isPossible_32 : jdk cX8_isPossible 32 1 33 := Or.inl ⟨1, by decide +kernel⟩
theorem d8_isPossible_33 : jdb cX8_isPossible 33 (.if_icmp .ne 7) 7 40 36 := by decide +kernel
theorem d8_isPossible_36 : jdk cX8_isPossible 36 1 37 := Or.inl ⟨1, by decide +kernel⟩
theorem d8_isPossible_37 : jdb cX8_isPossible 37 (.goto 4) 4 41 40 := by decide +kernel
theorem d8_isPossible_40 : jdk cX8_isPossible 40 0 41 := Or.inl ⟨0, by decide +kernel⟩
theorem d8_isPossible_41 : decode cX8_isPossible 41 = .ok (.ireturn, 1) := by decide +kernel
set_option maxHeartbeats 4000000 in
set_option maxRecDepth 100000 in
theorem kX8_isPossible (l : Launch) (D : va_G) (tc : jTC) (h_ h_rules h_rules_codes h_select : Nat) (g_sets g_possible g_lowest g_conflicts g_rules_count : Value) (c_rules_codes : (Nat → Int32)) (c_select : (Nat → Int32)) (p1 : Int32) (p2 : Int32) : ctI0 l D tc yX8_isPossible (Cond.code yX8_isPossible cX8_isPossible 3 (some .boolean) :: jtb) ({ frames := 2, cells := 0, slots := 0, locals := 41 } : Room) [.ref h_, .int p1, .int p2] [(h_, .inr (8, [.ref h_rules, g_sets, .ref h_select, g_possible, g_lowest, g_conflicts])), (h_rules, .inr (6, [.ref h_rules_codes, g_rules_count])), (h_rules_codes, .inl (tc.1, 24, .inl c_rules_codes)), (h_select, .inl (tc.1, 24, .inl c_select))] (fX8_isPossible c_rules_codes c_select p1 p2) := by
  refine ctI0_of (lv0 := [(0, .ref h_), (1, .int p1), (2, .int p2)]) (by decide +kernel) (Nat.le_of_ble_eq_true rfl) rfl (fun X C => ?_)
  unfold fX8_isPossible
  refine j_aload C d8_isPossible_0 0 rfl ?_
  refine j_get C d8_isPossible_1 fl8_21 0 rfl rfl ?_
  refine j_get C d8_isPossible_4 fl8_35 1 rfl rfl ?_
  refine j_iload C d8_isPossible_7 1 rfl ?_
  refine j_iald C d8_isPossible_8 2 rfl (fun x1 => ?_)
  refine j_iload C d8_isPossible_9 2 rfl ?_
  refine j_const C d8_isPossible_10 ?_
  refine j_idiv C d8_isPossible_12 (by decide) ?_
  refine j_callSI0 (As := [.int x1, .int (p2 / (9 : Int32))]) C d8_isPossible_13 ms8_81 (kX6_isOf _ _ tc x1 (p2 / (9 : Int32))) ⟨rfl, rfl, Nat.le_of_ble_eq_true rfl, Nat.le_of_ble_eq_true rfl⟩ rfl [] rfl rfl rfl (Nat.le_of_ble_eq_true rfl) (fun x2 => ?_)
  refine j_join 41 (fun v3 => [(h_, .inr (8, [.ref h_rules, g_sets, .ref h_select, g_possible, g_lowest, g_conflicts])), (h_rules, .inr (6, [.ref h_rules_codes, g_rules_count])), (h_rules_codes, .inl (tc.1, 24, .inl c_rules_codes)), (h_select, .inl (tc.1, 24, .inl c_select))]) (fun v3 => []) (fun v3 => [.int v3]) (fun v3 => ?_) (fun k4 hk4 => ?_)
  · refine j_gz (fun hz => ?_)
    exact j_zret0 C hz d8_isPossible_41
  · refine j_join 40 (fun v5 => [(h_, .inr (8, [.ref h_rules, g_sets, .ref h_select, g_possible, g_lowest, g_conflicts])), (h_rules, .inr (6, [.ref h_rules_codes, g_rules_count])), (h_rules_codes, .inl (tc.1, 24, .inl c_rules_codes)), (h_select, .inl (tc.1, 24, .inl c_select))]) (fun v5 => []) (fun v5 => []) (fun v5 => ?_) (fun k6 hk6 => ?_)
    · refine j_const C d8_isPossible_40 ?_
      exact hk4 _
    · refine j_if_eq C d8_isPossible_16 ?_ ?_
      · exact j_sub [] rfl (hk6 _)
      · refine j_aload C d8_isPossible_19 0 rfl ?_
        refine j_get C d8_isPossible_20 fl8_9 0 rfl rfl ?_
        refine j_iload C d8_isPossible_23 1 rfl ?_
        refine j_iald C d8_isPossible_24 3 rfl (fun x7 => ?_)
        refine j_iload C d8_isPossible_25 2 rfl ?_
        refine j_const C d8_isPossible_26 ?_
        refine j_irem C d8_isPossible_28 (by decide) ?_
        refine j_callNI0 (As := [.int x7, .int (p2 - p2 / (9 : Int32) * (9 : Int32))]) C d8_isPossible_29 mn8_68 (kX11_bit _ _ tc x7 (p2 - p2 / (9 : Int32) * (9 : Int32))) ⟨rfl, rfl, Nat.le_of_ble_eq_true rfl, Nat.le_of_ble_eq_true rfl⟩ rfl [] rfl rfl rfl (Nat.le_of_ble_eq_true rfl) (fun x8 => ?_)
        refine j_const C d8_isPossible_32 ?_
        refine j_icmp_ne C d8_isPossible_33 ?_ ?_
        · exact j_sub [] rfl (hk6 _)
        · refine j_const C d8_isPossible_36 ?_
          refine j_goto C d8_isPossible_37 ?_
          exact j_sub [] rfl (hk4 _)

theorem d8_conflictIn_0 : jdi cX8_conflictIn 0 2 1 := Or.inl ⟨2, by decide +kernel⟩
theorem d8_conflictIn_1 : jds cX8_conflictIn 1 3 2 := Or.inl ⟨3, by decide +kernel⟩
theorem d8_conflictIn_2 : jdk cX8_conflictIn 2 0 3 := Or.inl ⟨0, by decide +kernel⟩
theorem d8_conflictIn_3 : jds cX8_conflictIn 3 4 5 := Or.inr (by decide +kernel)
theorem d8_conflictIn_5 : jdi cX8_conflictIn 5 4 7 := Or.inr (by decide +kernel)
theorem d8_conflictIn_7 : jda cX8_conflictIn 7 0 8 := Or.inl ⟨0, by decide +kernel⟩
theorem d8_conflictIn_8 : jd cX8_conflictIn 8 (.getfield 21) 3 11 := by decide +kernel
theorem d8_conflictIn_11 : jd cX8_conflictIn 11 (.getfield 29) 3 14 := by decide +kernel
theorem d8_conflictIn_14 : jdb cX8_conflictIn 14 (.if_icmp .ge 69) 69 83 17 := by decide +kernel
theorem d8_conflictIn_17 : jdi cX8_conflictIn 17 4 19 := Or.inr (by decide +kernel)
theorem d8_conflictIn_19 : jdk cX8_conflictIn 19 1 20 := Or.inl ⟨1, by decide +kernel⟩
theorem d8_conflictIn_20 : jd cX8_conflictIn 20 (.iadd) 1 21 := by decide +kernel
theorem d8_conflictIn_21 : jds cX8_conflictIn 21 5 23 := Or.inr (by decide +kernel)
theorem d8_conflictIn_23 : jdi cX8_conflictIn 23 5 25 := Or.inr (by decide +kernel)
theorem d8_conflictIn_25 : jda cX8_conflictIn 25 0 26 := Or.inl ⟨0, by decide +kernel⟩
theorem d8_conflictIn_26 : jd cX8_conflictIn 26 (.getfield 21) 3 29 := by decide +kernel
theorem d8_conflictIn_29 : jd cX8_conflictIn 29 (.getfield 29) 3 32 := by decide +kernel
theorem d8_conflictIn_32 : jdb cX8_conflictIn 32 (.if_icmp .ge 45) 45 77 35 := by decide +kernel
theorem d8_conflictIn_35 : jda cX8_conflictIn 35 0 36 := Or.inl ⟨0, by decide +kernel⟩
theorem d8_conflictIn_36 : jdi cX8_conflictIn 36 4 38 := Or.inr (by decide +kernel)
theorem d8_conflictIn_38 : jdi cX8_conflictIn 38 1 39 := Or.inl ⟨1, by decide +kernel⟩
theorem d8_conflictIn_39 : jd cX8_conflictIn 39 (.invokevirtual 74) 3 42 := by decide +kernel
theorem d8_conflictIn_42 : jdb cX8_conflictIn 42 (.ifCond .eq 35) 35 77 45 := by decide +kernel
theorem d8_conflictIn_45 : jda cX8_conflictIn 45 0 46 := Or.inl ⟨0, by decide +kernel⟩
theorem d8_conflictIn_46 : jdi cX8_conflictIn 46 5 48 := Or.inr (by decide +kernel)
theorem d8_conflictIn_48 : jdi cX8_conflictIn 48 1 49 := Or.inl ⟨1, by decide +kernel⟩
theorem d8_conflictIn_49 : jd cX8_conflictIn 49 (.invokevirtual 74) 3 52 := by decide +kernel
theorem d8_conflictIn_52 : jdb cX8_conflictIn 52 (.ifCond .eq 19) 19 71 55 := by decide +kernel
theorem d8_conflictIn_55 : jdi cX8_conflictIn 55 3 56 := Or.inl ⟨3, by decide +kernel⟩
theorem d8_conflictIn_56 : jdb cX8_conflictIn 56 (.ifCond .ne 12) 12 68 59 := by decide +kernel
theorem d8_conflictIn_59 : jdi cX8_conflictIn 59 1 60 := Or.inl ⟨1, by decide +kernel⟩
theorem d8_conflictIn_60 : jdi cX8_conflictIn 60 4 62 := Or.inr (by decide +kernel)
theorem d8_conflictIn_62 : jdi cX8_conflictIn 62 5 64 := Or.inr (by decide +kernel)
theorem d8_conflictIn_64 : jd cX8_conflictIn 64 (.invokestatic 77) 3 67 := by decide +kernel
theorem d8_conflictIn_67 : decode cX8_conflictIn 67 = .ok (.ireturn, 1) := by decide +kernel
theorem d8_conflictIn_68 : jd cX8_conflictIn 68 (.iinc 3 (-1)) 3 71 := by decide +kernel
theorem d8_conflictIn_71 : jd cX8_conflictIn 71 (.iinc 5 1) 3 74 := by decide +kernel
theorem d8_conflictIn_74 : jdb cX8_conflictIn 74 (.goto (-51)) (-51) 23 77 := by decide +kernel
theorem d8_conflictIn_77 : jd cX8_conflictIn 77 (.iinc 4 1) 3 80 := by decide +kernel
theorem d8_conflictIn_80 : jdb cX8_conflictIn 80 (.goto (-75)) (-75) 5 83 := by decide +kernel
theorem d8_conflictIn_83 : jdk cX8_conflictIn 83 (-1) 84 := Or.inl ⟨(-1), by decide +kernel⟩
theorem d8_conflictIn_84 : decode cX8_conflictIn 84 = .ok (.ireturn, 1) := by decide +kernel
set_option maxHeartbeats 4000000 in
set_option maxRecDepth 100000 in
theorem wX8_conflictIn_23 {X : jC} {tc : jTC} (C : jx X cX8_conflictIn 6 RX8 (some .int) tc ({ frames := 3, cells := 0, slots := 0, locals := 63 } : Room)) (h_ h_rules h_rules_codes h_select : Nat) (g_sets g_possible g_lowest g_conflicts : Value) (p1 : Int32) (c_rules_codes : (Nat → Int32)) (c_rules_count : Int32) (c_select : (Nat → Int32)) (v3 : Int32 × Int32) (k8 : (Int32 → Option (Int32))) (hk8 : ∀ w18 : Int32, jo X 6 (0, 0) (jQI0 X [(h_, .inr (8, [.ref h_rules, g_sets, .ref h_select, g_possible, g_lowest, g_conflicts])), (h_rules, .inr (6, [.ref h_rules_codes, .int c_rules_count])), (h_rules_codes, .inl (tc.1, 24, .inl c_rules_codes)), (h_select, .inl (tc.1, 24, .inl c_select))]) (k8 w18) [(h_, .inr (8, [.ref h_rules, g_sets, .ref h_select, g_possible, g_lowest, g_conflicts])), (h_rules, .inr (6, [.ref h_rules_codes, .int c_rules_count])), (h_rules_codes, .inl (tc.1, 24, .inl c_rules_codes)), (h_select, .inl (tc.1, 24, .inl c_select))] 77 [(0, .ref h_), (1, .int p1), (3, .int w18), (4, .int v3.2)] []) (rc10 : Int32 × Int32 → Option (Int32)) (hrc10 : ∀ v9 : Int32 × Int32, jo X 6 (0, 0) (jQI0 X [(h_, .inr (8, [.ref h_rules, g_sets, .ref h_select, g_possible, g_lowest, g_conflicts])), (h_rules, .inr (6, [.ref h_rules_codes, .int c_rules_count])), (h_rules_codes, .inl (tc.1, 24, .inl c_rules_codes)), (h_select, .inl (tc.1, 24, .inl c_select))]) (rc10 v9) [(h_, .inr (8, [.ref h_rules, g_sets, .ref h_select, g_possible, g_lowest, g_conflicts])), (h_rules, .inr (6, [.ref h_rules_codes, .int c_rules_count])), (h_rules_codes, .inl (tc.1, 24, .inl c_rules_codes)), (h_select, .inl (tc.1, 24, .inl c_select))] 23 [(0, .ref h_), (1, .int p1), (3, .int v9.1), (4, .int v3.2), (5, .int v9.2)] []) (v9 : Int32 × Int32) : jo X 6 (0, 0) (jQI0 X [(h_, .inr (8, [.ref h_rules, g_sets, .ref h_select, g_possible, g_lowest, g_conflicts])), (h_rules, .inr (6, [.ref h_rules_codes, .int c_rules_count])), (h_rules_codes, .inl (tc.1, 24, .inl c_rules_codes)), (h_select, .inl (tc.1, 24, .inl c_select))]) (bX8_conflictIn_23 p1 c_rules_codes c_rules_count c_select v3 k8 rc10 v9) [(h_, .inr (8, [.ref h_rules, g_sets, .ref h_select, g_possible, g_lowest, g_conflicts])), (h_rules, .inr (6, [.ref h_rules_codes, .int c_rules_count])), (h_rules_codes, .inl (tc.1, 24, .inl c_rules_codes)), (h_select, .inl (tc.1, 24, .inl c_select))] 23 [(0, .ref h_), (1, .int p1), (3, .int v9.1), (4, .int v3.2), (5, .int v9.2)] [] := by
  unfold bX8_conflictIn_23
  refine j_iload C d8_conflictIn_23 4 rfl ?_
  refine j_aload C d8_conflictIn_25 0 rfl ?_
  refine j_get C d8_conflictIn_26 fl8_21 0 rfl rfl ?_
  refine j_get C d8_conflictIn_29 fl8_29 1 rfl rfl ?_
  refine j_icmp_ge C d8_conflictIn_32 ?_ ?_
  · exact j_sub [0, 1, 2, 3] rfl (hk8 _)
  · refine j_aload C d8_conflictIn_35 0 rfl ?_
    refine j_iload C d8_conflictIn_36 3 rfl ?_
    refine j_iload C d8_conflictIn_38 1 rfl ?_
    refine j_callVI0 (As := [.int v3.2, .int p1]) C d8_conflictIn_39 mv8_74 (kX8_isPossible _ _ tc h_ h_rules h_rules_codes h_select g_sets g_possible g_lowest g_conflicts (.int c_rules_count) c_rules_codes c_select v3.2 p1) ⟨rfl, rfl, Nat.le_of_ble_eq_true rfl, Nat.le_of_ble_eq_true rfl⟩ rfl 0 rfl [0, 1, 2, 3] rfl rfl rfl (Nat.le_of_ble_eq_true rfl) (fun x11 => ?_)
    refine j_if_eq C d8_conflictIn_42 ?_ ?_
    · exact j_sub [0, 1, 2, 3] rfl (hk8 _)
    · refine j_aload C d8_conflictIn_45 0 rfl ?_
      refine j_iload C d8_conflictIn_46 4 rfl ?_
      refine j_iload C d8_conflictIn_48 1 rfl ?_
      refine j_callVI0 (As := [.int v9.2, .int p1]) C d8_conflictIn_49 mv8_74 (kX8_isPossible _ _ tc h_ h_rules h_rules_codes h_select g_sets g_possible g_lowest g_conflicts (.int c_rules_count) c_rules_codes c_select v9.2 p1) ⟨rfl, rfl, Nat.le_of_ble_eq_true rfl, Nat.le_of_ble_eq_true rfl⟩ rfl 0 rfl [0, 1, 2, 3] rfl rfl rfl (Nat.le_of_ble_eq_true rfl) (fun x12 => ?_)
      refine j_join 71 (fun v13 => [(h_, .inr (8, [.ref h_rules, g_sets, .ref h_select, g_possible, g_lowest, g_conflicts])), (h_rules, .inr (6, [.ref h_rules_codes, .int c_rules_count])), (h_rules_codes, .inl (tc.1, 24, .inl c_rules_codes)), (h_select, .inl (tc.1, 24, .inl c_select))]) (fun v13 => [(0, .ref h_), (1, .int p1), (3, .int v13), (4, .int v3.2), (5, .int v9.2)]) (fun v13 => []) (fun v13 => ?_) (fun k15 hk15 => ?_)
      · refine j_iincN C (fun x14 => [(5, .int x14), (0, .ref h_), (1, .int p1), (3, .int v13), (4, .int v3.2)]) d8_conflictIn_71 4 rfl (by decide +kernel) (by decide) (fun _ => rfl) (fun x14 => ?_)
        refine j_goto C d8_conflictIn_74 ?_
        exact j_sub [1, 2, 3, 4, 0] rfl (hrc10 _)
      · refine j_if_eq C d8_conflictIn_52 ?_ ?_
        · exact hk15 _
        · refine j_iload C d8_conflictIn_55 2 rfl ?_
          refine j_if_ne C d8_conflictIn_56 ?_ ?_
          · refine j_iincN C (fun x16 => [(3, .int x16), (0, .ref h_), (1, .int p1), (4, .int v3.2), (5, .int v9.2)]) d8_conflictIn_68 2 rfl (by decide +kernel) (by decide) (fun _ => rfl) (fun x16 => ?_)
            exact j_sub [1, 2, 0, 3, 4] rfl (hk15 _)
          · refine j_iload C d8_conflictIn_59 1 rfl ?_
            refine j_iload C d8_conflictIn_60 3 rfl ?_
            refine j_iload C d8_conflictIn_62 4 rfl ?_
            refine j_callSI0 (As := [.int p1, .int v3.2, .int v9.2]) C d8_conflictIn_64 ms8_77 (kX8_conflictOf _ _ tc p1 v3.2 v9.2) ⟨rfl, rfl, Nat.le_of_ble_eq_true rfl, Nat.le_of_ble_eq_true rfl⟩ rfl [] rfl rfl rfl (Nat.le_of_ble_eq_true rfl) (fun x17 => ?_)
            exact j_iret0 C d8_conflictIn_67

set_option maxHeartbeats 4000000 in
set_option maxRecDepth 100000 in
theorem wX8_conflictIn_5 {X : jC} {tc : jTC} (C : jx X cX8_conflictIn 6 RX8 (some .int) tc ({ frames := 3, cells := 0, slots := 0, locals := 63 } : Room)) (N : Nat) (h_ h_rules h_rules_codes h_select : Nat) (g_sets g_possible g_lowest g_conflicts : Value) (p1 : Int32) (c_rules_codes : (Nat → Int32)) (c_rules_count : Int32) (c_select : (Nat → Int32)) (k2 : (Unit → Option (Int32))) (hk2 : ∀ w19 : Unit, jo X 6 (0, 0) (jQI0 X [(h_, .inr (8, [.ref h_rules, g_sets, .ref h_select, g_possible, g_lowest, g_conflicts])), (h_rules, .inr (6, [.ref h_rules_codes, .int c_rules_count])), (h_rules_codes, .inl (tc.1, 24, .inl c_rules_codes)), (h_select, .inl (tc.1, 24, .inl c_select))]) (k2 w19) [(h_, .inr (8, [.ref h_rules, g_sets, .ref h_select, g_possible, g_lowest, g_conflicts])), (h_rules, .inr (6, [.ref h_rules_codes, .int c_rules_count])), (h_rules_codes, .inl (tc.1, 24, .inl c_rules_codes)), (h_select, .inl (tc.1, 24, .inl c_select))] 83 [] []) (rc4 : Int32 × Int32 → Option (Int32)) (hrc4 : ∀ v3 : Int32 × Int32, jo X 6 (0, 0) (jQI0 X [(h_, .inr (8, [.ref h_rules, g_sets, .ref h_select, g_possible, g_lowest, g_conflicts])), (h_rules, .inr (6, [.ref h_rules_codes, .int c_rules_count])), (h_rules_codes, .inl (tc.1, 24, .inl c_rules_codes)), (h_select, .inl (tc.1, 24, .inl c_select))]) (rc4 v3) [(h_, .inr (8, [.ref h_rules, g_sets, .ref h_select, g_possible, g_lowest, g_conflicts])), (h_rules, .inr (6, [.ref h_rules_codes, .int c_rules_count])), (h_rules_codes, .inl (tc.1, 24, .inl c_rules_codes)), (h_select, .inl (tc.1, 24, .inl c_select))] 5 [(0, .ref h_), (1, .int p1), (3, .int v3.1), (4, .int v3.2)] []) (v3 : Int32 × Int32) : jo X 6 (0, 0) (jQI0 X [(h_, .inr (8, [.ref h_rules, g_sets, .ref h_select, g_possible, g_lowest, g_conflicts])), (h_rules, .inr (6, [.ref h_rules_codes, .int c_rules_count])), (h_rules_codes, .inl (tc.1, 24, .inl c_rules_codes)), (h_select, .inl (tc.1, 24, .inl c_select))]) (bX8_conflictIn_5 N p1 c_rules_codes c_rules_count c_select k2 rc4 v3) [(h_, .inr (8, [.ref h_rules, g_sets, .ref h_select, g_possible, g_lowest, g_conflicts])), (h_rules, .inr (6, [.ref h_rules_codes, .int c_rules_count])), (h_rules_codes, .inl (tc.1, 24, .inl c_rules_codes)), (h_select, .inl (tc.1, 24, .inl c_select))] 5 [(0, .ref h_), (1, .int p1), (3, .int v3.1), (4, .int v3.2)] [] := by
  unfold bX8_conflictIn_5
  refine j_iload C d8_conflictIn_5 3 rfl ?_
  refine j_aload C d8_conflictIn_7 0 rfl ?_
  refine j_get C d8_conflictIn_8 fl8_21 0 rfl rfl ?_
  refine j_get C d8_conflictIn_11 fl8_29 1 rfl rfl ?_
  refine j_icmp_ge C d8_conflictIn_14 ?_ ?_
  · exact j_sub [] rfl (hk2 _)
  · refine j_iload C d8_conflictIn_17 3 rfl ?_
    refine j_const C d8_conflictIn_19 ?_
    refine j_iadd C d8_conflictIn_20 ?_
    refine j_leti (fun x5 => ?_)
    refine j_istore C d8_conflictIn_21 (by decide) (lv' := [(5, .int x5), (0, .ref h_), (1, .int p1), (3, .int v3.1), (4, .int v3.2)]) rfl ?_
    refine j_join 77 (fun v6 => [(h_, .inr (8, [.ref h_rules, g_sets, .ref h_select, g_possible, g_lowest, g_conflicts])), (h_rules, .inr (6, [.ref h_rules_codes, .int c_rules_count])), (h_rules_codes, .inl (tc.1, 24, .inl c_rules_codes)), (h_select, .inl (tc.1, 24, .inl c_select))]) (fun v6 => [(0, .ref h_), (1, .int p1), (3, .int v6), (4, .int v3.2)]) (fun v6 => []) (fun v6 => ?_) (fun k8 hk8 => ?_)
    · refine j_iincN C (fun x7 => [(4, .int x7), (0, .ref h_), (1, .int p1), (3, .int v6)]) d8_conflictIn_77 3 rfl (by decide +kernel) (by decide) (fun _ => rfl) (fun x7 => ?_)
      refine j_goto C d8_conflictIn_80 ?_
      exact j_sub [1, 2, 3, 0] rfl (hrc4 _)
    · exact j_sub [1, 2, 3, 4, 0] rfl (j_loop (fun v9 => [(h_, .inr (8, [.ref h_rules, g_sets, .ref h_select, g_possible, g_lowest, g_conflicts])), (h_rules, .inr (6, [.ref h_rules_codes, .int c_rules_count])), (h_rules_codes, .inl (tc.1, 24, .inl c_rules_codes)), (h_select, .inl (tc.1, 24, .inl c_select))]) (fun v9 => [(0, .ref h_), (1, .int p1), (3, .int v9.1), (4, .int v3.2), (5, .int v9.2)]) (fun rc10 hrc10 v9 => wX8_conflictIn_23 C h_ h_rules h_rules_codes h_select g_sets g_possible g_lowest g_conflicts p1 c_rules_codes c_rules_count c_select v3 k8 hk8 rc10 hrc10 v9) N _)

set_option maxHeartbeats 4000000 in
set_option maxRecDepth 100000 in
theorem kX8_conflictIn (l : Launch) (D : va_G) (tc : jTC) (N : Nat) (h_ h_rules h_rules_codes h_select : Nat) (g_sets g_possible g_lowest g_conflicts : Value) (c_rules_codes : (Nat → Int32)) (c_rules_count : Int32) (c_select : (Nat → Int32)) (p1 : Int32) (p2 : Int32) : ctI0 l D tc yX8_conflictIn (Cond.code yX8_conflictIn cX8_conflictIn 6 (some .int) :: jtb) ({ frames := 3, cells := 0, slots := 0, locals := 63 } : Room) [.ref h_, .int p1, .int p2] [(h_, .inr (8, [.ref h_rules, g_sets, .ref h_select, g_possible, g_lowest, g_conflicts])), (h_rules, .inr (6, [.ref h_rules_codes, .int c_rules_count])), (h_rules_codes, .inl (tc.1, 24, .inl c_rules_codes)), (h_select, .inl (tc.1, 24, .inl c_select))] (fX8_conflictIn N c_rules_codes c_rules_count c_select p1 p2) := by
  refine ctI0_of (lv0 := [(0, .ref h_), (1, .int p1), (2, .int p2)]) (by decide +kernel) (Nat.le_of_ble_eq_true rfl) rfl (fun X C => ?_)
  unfold fX8_conflictIn
  refine j_iload C d8_conflictIn_0 2 rfl ?_
  refine j_istore C d8_conflictIn_1 (by decide) (lv' := [(3, .int p2), (0, .ref h_), (1, .int p1), (2, .int p2)]) rfl ?_
  refine j_const C d8_conflictIn_2 ?_
  refine j_istore C d8_conflictIn_3 (by decide) (lv' := [(4, .int 0), (3, .int p2), (0, .ref h_), (1, .int p1), (2, .int p2)]) rfl ?_
  refine j_join 83 (fun v1 => [(h_, .inr (8, [.ref h_rules, g_sets, .ref h_select, g_possible, g_lowest, g_conflicts])), (h_rules, .inr (6, [.ref h_rules_codes, .int c_rules_count])), (h_rules_codes, .inl (tc.1, 24, .inl c_rules_codes)), (h_select, .inl (tc.1, 24, .inl c_select))]) (fun v1 => []) (fun v1 => []) (fun v1 => ?_) (fun k2 hk2 => ?_)
  · refine j_const C d8_conflictIn_83 ?_
    exact j_iret0 C d8_conflictIn_84
  · exact j_sub [2, 3, 1, 0] rfl (j_loop (fun v3 => [(h_, .inr (8, [.ref h_rules, g_sets, .ref h_select, g_possible, g_lowest, g_conflicts])), (h_rules, .inr (6, [.ref h_rules_codes, .int c_rules_count])), (h_rules_codes, .inl (tc.1, 24, .inl c_rules_codes)), (h_select, .inl (tc.1, 24, .inl c_select))]) (fun v3 => [(0, .ref h_), (1, .int p1), (3, .int v3.1), (4, .int v3.2)]) (fun rc4 hrc4 v3 => wX8_conflictIn_5 C N h_ h_rules h_rules_codes h_select g_sets g_possible g_lowest g_conflicts p1 c_rules_codes c_rules_count c_select k2 hk2 rc4 hrc4 v3) N _)

theorem d8_conflictAt_0 : jdi cX8_conflictAt 0 1 1 := Or.inl ⟨1, by decide +kernel⟩
theorem d8_conflictAt_1 : jds cX8_conflictAt 1 2 2 := Or.inl ⟨2, by decide +kernel⟩
theorem d8_conflictAt_2 : jdk cX8_conflictAt 2 0 3 := Or.inl ⟨0, by decide +kernel⟩
theorem d8_conflictAt_3 : jds cX8_conflictAt 3 3 4 := Or.inl ⟨3, by decide +kernel⟩
theorem d8_conflictAt_4 : jdi cX8_conflictAt 4 3 5 := Or.inl ⟨3, by decide +kernel⟩
theorem d8_conflictAt_5 : jdk cX8_conflictAt 5 72 7 := Or.inr (Or.inl ⟨72, by decide +kernel⟩)
theorem d8_conflictAt_7 : jdb cX8_conflictAt 7 (.if_icmp .ge 34) 34 41 10 := by decide +kernel
theorem d8_conflictAt_10 : jda cX8_conflictAt 10 0 11 := Or.inl ⟨0, by decide +kernel⟩
theorem d8_conflictAt_11 : jdi cX8_conflictAt 11 3 12 := Or.inl ⟨3, by decide +kernel⟩
theorem d8_conflictAt_12 : jd cX8_conflictAt 12 (.invokevirtual 49) 3 15 := by decide +kernel
theorem d8_conflictAt_15 : jds cX8_conflictAt 15 4 17 := Or.inr (by decide +kernel)
theorem d8_conflictAt_17 : jdi cX8_conflictAt 17 2 18 := Or.inl ⟨2, by decide +kernel⟩
theorem d8_conflictAt_18 : jdi cX8_conflictAt 18 4 20 := Or.inr (by decide +kernel)
theorem d8_conflictAt_20 : jdb cX8_conflictAt 20 (.if_icmp .ge 10) 10 30 23 := by decide +kernel
theorem d8_conflictAt_23 : jda cX8_conflictAt 23 0 24 := Or.inl ⟨0, by decide +kernel⟩
theorem d8_conflictAt_24 : jdi cX8_conflictAt 24 3 25 := Or.inl ⟨3, by decide +kernel⟩
theorem d8_conflictAt_25 : jdi cX8_conflictAt 25 2 26 := Or.inl ⟨2, by decide +kernel⟩
theorem d8_conflictAt_26 : jd cX8_conflictAt 26 (.invokevirtual 71) 3 29 := by decide +kernel
theorem d8_conflictAt_29 : decode cX8_conflictAt 29 = .ok (.ireturn, 1) := by decide +kernel
theorem d8_conflictAt_30 : jdi cX8_conflictAt 30 2 31 := Or.inl ⟨2, by decide +kernel⟩
theorem d8_conflictAt_31 : jdi cX8_conflictAt 31 4 33 := Or.inr (by decide +kernel)
theorem d8_conflictAt_33 : jd cX8_conflictAt 33 (.isub) 1 34 := by decide +kernel
theorem d8_conflictAt_34 : jds cX8_conflictAt 34 2 35 := Or.inl ⟨2, by decide +kernel⟩
theorem d8_conflictAt_35 : jd cX8_conflictAt 35 (.iinc 3 1) 3 38 := by decide +kernel
theorem d8_conflictAt_38 : jdb cX8_conflictAt 38 (.goto (-34)) (-34) 4 41 := by decide +kernel
theorem d8_conflictAt_41 : jdk cX8_conflictAt 41 (-1) 42 := Or.inl ⟨(-1), by decide +kernel⟩
theorem d8_conflictAt_42 : decode cX8_conflictAt 42 = .ok (.ireturn, 1) := by decide +kernel
set_option maxHeartbeats 4000000 in
set_option maxRecDepth 100000 in
theorem wX8_conflictAt_4 {X : jC} {tc : jTC} (C : jx X cX8_conflictAt 5 RX8 (some .int) tc ({ frames := 4, cells := 0, slots := 0, locals := 88 } : Room)) (N : Nat) (h_ h_rules h_rules_codes h_select h_possible : Nat) (g_sets g_lowest g_conflicts : Value) (c_rules_codes : (Nat → Int32)) (c_rules_count : Int32) (c_select : (Nat → Int32)) (c_possible : (Nat → Int32)) (k2 : (Unit → Option (Int32))) (hk2 : ∀ w9 : Unit, jo X 5 (0, 0) (jQI0 X [(h_, .inr (8, [.ref h_rules, g_sets, .ref h_select, .ref h_possible, g_lowest, g_conflicts])), (h_rules, .inr (6, [.ref h_rules_codes, .int c_rules_count])), (h_rules_codes, .inl (tc.1, 24, .inl c_rules_codes)), (h_select, .inl (tc.1, 24, .inl c_select)), (h_possible, .inl (tc.1, 72, .inl c_possible))]) (k2 w9) [(h_, .inr (8, [.ref h_rules, g_sets, .ref h_select, .ref h_possible, g_lowest, g_conflicts])), (h_rules, .inr (6, [.ref h_rules_codes, .int c_rules_count])), (h_rules_codes, .inl (tc.1, 24, .inl c_rules_codes)), (h_select, .inl (tc.1, 24, .inl c_select)), (h_possible, .inl (tc.1, 72, .inl c_possible))] 41 [] []) (rc4 : Int32 × Int32 → Option (Int32)) (hrc4 : ∀ v3 : Int32 × Int32, jo X 5 (0, 0) (jQI0 X [(h_, .inr (8, [.ref h_rules, g_sets, .ref h_select, .ref h_possible, g_lowest, g_conflicts])), (h_rules, .inr (6, [.ref h_rules_codes, .int c_rules_count])), (h_rules_codes, .inl (tc.1, 24, .inl c_rules_codes)), (h_select, .inl (tc.1, 24, .inl c_select)), (h_possible, .inl (tc.1, 72, .inl c_possible))]) (rc4 v3) [(h_, .inr (8, [.ref h_rules, g_sets, .ref h_select, .ref h_possible, g_lowest, g_conflicts])), (h_rules, .inr (6, [.ref h_rules_codes, .int c_rules_count])), (h_rules_codes, .inl (tc.1, 24, .inl c_rules_codes)), (h_select, .inl (tc.1, 24, .inl c_select)), (h_possible, .inl (tc.1, 72, .inl c_possible))] 4 [(0, .ref h_), (2, .int v3.1), (3, .int v3.2)] []) (v3 : Int32 × Int32) : jo X 5 (0, 0) (jQI0 X [(h_, .inr (8, [.ref h_rules, g_sets, .ref h_select, .ref h_possible, g_lowest, g_conflicts])), (h_rules, .inr (6, [.ref h_rules_codes, .int c_rules_count])), (h_rules_codes, .inl (tc.1, 24, .inl c_rules_codes)), (h_select, .inl (tc.1, 24, .inl c_select)), (h_possible, .inl (tc.1, 72, .inl c_possible))]) (bX8_conflictAt_4 N c_rules_codes c_rules_count c_select c_possible k2 rc4 v3) [(h_, .inr (8, [.ref h_rules, g_sets, .ref h_select, .ref h_possible, g_lowest, g_conflicts])), (h_rules, .inr (6, [.ref h_rules_codes, .int c_rules_count])), (h_rules_codes, .inl (tc.1, 24, .inl c_rules_codes)), (h_select, .inl (tc.1, 24, .inl c_select)), (h_possible, .inl (tc.1, 72, .inl c_possible))] 4 [(0, .ref h_), (2, .int v3.1), (3, .int v3.2)] [] := by
  unfold bX8_conflictAt_4
  refine j_iload C d8_conflictAt_4 2 rfl ?_
  refine j_const C d8_conflictAt_5 ?_
  refine j_icmp_ge C d8_conflictAt_7 ?_ ?_
  · exact j_sub [] rfl (hk2 _)
  · refine j_aload C d8_conflictAt_10 0 rfl ?_
    refine j_iload C d8_conflictAt_11 2 rfl ?_
    refine j_callVI0 (As := [.int v3.2]) C d8_conflictAt_12 mv8_49 (kX8_pairsIn _ _ tc h_ h_possible (.ref h_rules) g_sets (.ref h_select) g_lowest g_conflicts c_possible v3.2) ⟨rfl, rfl, Nat.le_of_ble_eq_true rfl, Nat.le_of_ble_eq_true rfl⟩ rfl 0 rfl [0, 4] rfl rfl rfl (Nat.le_of_ble_eq_true rfl) (fun x5 => ?_)
    refine j_istore C d8_conflictAt_15 (by decide) (lv' := [(4, .int x5), (0, .ref h_), (2, .int v3.1), (3, .int v3.2)]) rfl ?_
    refine j_iload C d8_conflictAt_17 2 rfl ?_
    refine j_iload C d8_conflictAt_18 0 rfl ?_
    refine j_icmp_ge C d8_conflictAt_20 ?_ ?_
    · refine j_iload C d8_conflictAt_30 2 rfl ?_
      refine j_iload C d8_conflictAt_31 0 rfl ?_
      refine j_isub C d8_conflictAt_33 ?_
      refine j_leti (fun x6 => ?_)
      refine j_istore C d8_conflictAt_34 (by decide) (lv' := [(2, .int x6), (4, .int x5), (0, .ref h_), (3, .int v3.2)]) rfl ?_
      refine j_iincN C (fun x7 => [(3, .int x7), (2, .int x6), (4, .int x5), (0, .ref h_)]) d8_conflictAt_35 3 rfl (by decide +kernel) (by decide) (fun _ => rfl) (fun x7 => ?_)
      refine j_goto C d8_conflictAt_38 ?_
      exact j_sub [3, 1, 0] rfl (hrc4 _)
    · refine j_aload C d8_conflictAt_23 1 rfl ?_
      refine j_iload C d8_conflictAt_24 3 rfl ?_
      refine j_iload C d8_conflictAt_25 2 rfl ?_
      refine j_callVI0 (As := [.int v3.2, .int v3.1]) C d8_conflictAt_26 mv8_71 (kX8_conflictIn _ _ tc N h_ h_rules h_rules_codes h_select g_sets (.ref h_possible) g_lowest g_conflicts c_rules_codes c_rules_count c_select v3.2 v3.1) ⟨rfl, rfl, Nat.le_of_ble_eq_true rfl, Nat.le_of_ble_eq_true rfl⟩ rfl 0 rfl [0, 1, 2, 3] rfl rfl rfl (Nat.le_of_ble_eq_true rfl) (fun x8 => ?_)
      exact j_iret0 C d8_conflictAt_29

set_option maxHeartbeats 4000000 in
set_option maxRecDepth 100000 in
theorem kX8_conflictAt (l : Launch) (D : va_G) (tc : jTC) (N : Nat) (h_ h_rules h_rules_codes h_select h_possible : Nat) (g_sets g_lowest g_conflicts : Value) (c_rules_codes : (Nat → Int32)) (c_rules_count : Int32) (c_select : (Nat → Int32)) (c_possible : (Nat → Int32)) (p1 : Int32) : ctI0 l D tc yX8_conflictAt (Cond.code yX8_conflictAt cX8_conflictAt 5 (some .int) :: jtb) ({ frames := 4, cells := 0, slots := 0, locals := 88 } : Room) [.ref h_, .int p1] [(h_, .inr (8, [.ref h_rules, g_sets, .ref h_select, .ref h_possible, g_lowest, g_conflicts])), (h_rules, .inr (6, [.ref h_rules_codes, .int c_rules_count])), (h_rules_codes, .inl (tc.1, 24, .inl c_rules_codes)), (h_select, .inl (tc.1, 24, .inl c_select)), (h_possible, .inl (tc.1, 72, .inl c_possible))] (fX8_conflictAt N c_rules_codes c_rules_count c_select c_possible p1) := by
  refine ctI0_of (lv0 := [(0, .ref h_), (1, .int p1)]) (by decide +kernel) (Nat.le_of_ble_eq_true rfl) rfl (fun X C => ?_)
  unfold fX8_conflictAt
  refine j_iload C d8_conflictAt_0 1 rfl ?_
  refine j_istore C d8_conflictAt_1 (by decide) (lv' := [(2, .int p1), (0, .ref h_), (1, .int p1)]) rfl ?_
  refine j_const C d8_conflictAt_2 ?_
  refine j_istore C d8_conflictAt_3 (by decide) (lv' := [(3, .int 0), (2, .int p1), (0, .ref h_), (1, .int p1)]) rfl ?_
  refine j_join 41 (fun v1 => [(h_, .inr (8, [.ref h_rules, g_sets, .ref h_select, .ref h_possible, g_lowest, g_conflicts])), (h_rules, .inr (6, [.ref h_rules_codes, .int c_rules_count])), (h_rules_codes, .inl (tc.1, 24, .inl c_rules_codes)), (h_select, .inl (tc.1, 24, .inl c_select)), (h_possible, .inl (tc.1, 72, .inl c_possible))]) (fun v1 => []) (fun v1 => []) (fun v1 => ?_) (fun k2 hk2 => ?_)
  · refine j_const C d8_conflictAt_41 ?_
    exact j_iret0 C d8_conflictAt_42
  · exact j_sub [2, 1, 0] rfl (j_loop (fun v3 => [(h_, .inr (8, [.ref h_rules, g_sets, .ref h_select, .ref h_possible, g_lowest, g_conflicts])), (h_rules, .inr (6, [.ref h_rules_codes, .int c_rules_count])), (h_rules_codes, .inl (tc.1, 24, .inl c_rules_codes)), (h_select, .inl (tc.1, 24, .inl c_select)), (h_possible, .inl (tc.1, 72, .inl c_possible))]) (fun v3 => [(0, .ref h_), (2, .int v3.1), (3, .int v3.2)]) (fun rc4 hrc4 v3 => wX8_conflictAt_4 C N h_ h_rules h_rules_codes h_select h_possible g_sets g_lowest g_conflicts c_rules_codes c_rules_count c_select c_possible k2 hk2 rc4 hrc4 v3) N _)

theorem d8_kindOf_0 : jdi cX8_kindOf 0 1 1 := Or.inl ⟨1, by decide +kernel⟩
theorem d8_kindOf_1 : jdk cX8_kindOf 1 1 2 := Or.inl ⟨1, by decide +kernel⟩
theorem d8_kindOf_2 : jd cX8_kindOf 2 (.invokestatic 84) 3 5 := by decide +kernel
theorem d8_kindOf_5 : jds cX8_kindOf 5 2 6 := Or.inl ⟨2, by decide +kernel⟩
theorem d8_kindOf_6 : jdk cX8_kindOf 6 2 7 := Or.inl ⟨2, by decide +kernel⟩
theorem d8_kindOf_7 : jds cX8_kindOf 7 3 8 := Or.inl ⟨3, by decide +kernel⟩
theorem d8_kindOf_8 : jdk cX8_kindOf 8 0 9 := Or.inl ⟨0, by decide +kernel⟩
theorem d8_kindOf_9 : jds cX8_kindOf 9 4 11 := Or.inr (by decide +kernel)
theorem d8_kindOf_11 : jdi cX8_kindOf 11 4 13 := Or.inr (by decide +kernel)
theorem d8_kindOf_13 : jdk cX8_kindOf 13 2 14 := Or.inl ⟨2, by decide +kernel⟩
theorem d8_kindOf_14 : jdb cX8_kindOf 14 (.if_icmp .ge 60) 60 74 17 := by decide +kernel
theorem d8_kindOf_17 : jdi cX8_kindOf 17 1 18 := Or.inl ⟨1, by decide +kernel⟩
theorem d8_kindOf_18 : jdk cX8_kindOf 18 2 19 := Or.inl ⟨2, by decide +kernel⟩
theorem d8_kindOf_19 : jdi cX8_kindOf 19 4 21 := Or.inr (by decide +kernel)
theorem d8_kindOf_21 : jd cX8_kindOf 21 (.iadd) 1 22 := by decide +kernel
theorem d8_kindOf_22 : jd cX8_kindOf 22 (.invokestatic 84) 3 25 := by decide +kernel
theorem d8_kindOf_25 : jds cX8_kindOf 25 5 27 := Or.inr (by decide +kernel)
theorem d8_kindOf_27 : jdi cX8_kindOf 27 3 28 := Or.inl ⟨3, by decide +kernel⟩
theorem d8_kindOf_28 : jda cX8_kindOf 28 0 29 := Or.inl ⟨0, by decide +kernel⟩
theorem d8_kindOf_29 : jd cX8_kindOf 29 (.getfield 21) 3 32 := by decide +kernel
theorem d8_kindOf_32 : jdi cX8_kindOf 32 5 34 := Or.inr (by decide +kernel)
theorem d8_kindOf_34 : jd cX8_kindOf 34 (.invokevirtual 87) 3 37 := by decide +kernel
theorem d8_kindOf_37 : jdb cX8_kindOf 37 (.ifCond .eq 28) 28 65 40 := by decide +kernel
theorem d8_kindOf_40 : jda cX8_kindOf 40 0 41 := Or.inl ⟨0, by decide +kernel⟩
theorem d8_kindOf_41 : jd cX8_kindOf 41 (.getfield 25) 3 44 := by decide +kernel
theorem d8_kindOf_44 : jda cX8_kindOf 44 0 45 := Or.inl ⟨0, by decide +kernel⟩
theorem d8_kindOf_45 : jd cX8_kindOf 45 (.getfield 21) 3 48 := by decide +kernel
theorem d8_kindOf_48 : jd cX8_kindOf 48 (.getfield 35) 3 51 := by decide +kernel
theorem d8_kindOf_51 : jdi cX8_kindOf 51 5 53 := Or.inr (by decide +kernel)
theorem d8_kindOf_53 : jd cX8_kindOf 53 (.iaload) 1 54 := by decide +kernel
theorem d8_kindOf_54 : jdk cX8_kindOf 54 0 55 := Or.inl ⟨0, by decide +kernel⟩
theorem d8_kindOf_55 : jd cX8_kindOf 55 (.invokevirtual 52) 3 58 := by decide +kernel
theorem d8_kindOf_58 : jdi cX8_kindOf 58 2 59 := Or.inl ⟨2, by decide +kernel⟩
theorem d8_kindOf_59 : jd cX8_kindOf 59 (.invokestatic 68) 3 62 := by decide +kernel
theorem d8_kindOf_62 : jdb cX8_kindOf 62 (.goto 4) 4 66 65 := by decide +kernel
theorem d8_kindOf_65 : jdk cX8_kindOf 65 0 66 := Or.inl ⟨0, by decide +kernel⟩
theorem d8_kindOf_66 : jd cX8_kindOf 66 (.isub) 1 67 := by decide +kernel
theorem d8_kindOf_67 : jds cX8_kindOf 67 3 68 := Or.inl ⟨3, by decide +kernel⟩
theorem d8_kindOf_68 : jd cX8_kindOf 68 (.iinc 4 1) 3 71 := by decide +kernel
theorem d8_kindOf_71 : jdb cX8_kindOf 71 (.goto (-60)) (-60) 11 74 := by decide +kernel
theorem d8_kindOf_74 : jdi cX8_kindOf 74 3 75 := Or.inl ⟨3, by decide +kernel⟩
theorem d8_kindOf_75 : decode cX8_kindOf 75 = .ok (.ireturn, 1) := by decide +kernel
set_option maxHeartbeats 4000000 in
set_option maxRecDepth 100000 in
theorem wX8_kindOf_11 {X : jC} {tc : jTC} (C : jx X cX8_kindOf 6 RX8 (some .int) tc ({ frames := 3, cells := 0, slots := 0, locals := 66 } : Room)) (N : Nat) (h_ h_rules h_rules_codes h_sets h_sets_first : Nat) (g_select g_possible g_lowest g_conflicts g_sets_follow g_sets_begins : Value) (p1 : Int32) (c_rules_codes : (Nat → Int32)) (c_rules_count : Int32) (c_sets_nullable : Int32) (c_sets_first : (Nat → Int32)) (x1 : Int32) (k3 : (Int32 → Option (Int32))) (hk3 : ∀ w15 : Int32, jo X 6 (0, 0) (jQI0 X [(h_, .inr (8, [.ref h_rules, .ref h_sets, g_select, g_possible, g_lowest, g_conflicts])), (h_rules, .inr (6, [.ref h_rules_codes, .int c_rules_count])), (h_rules_codes, .inl (tc.1, 24, .inl c_rules_codes)), (h_sets, .inr (7, [.int c_sets_nullable, .ref h_sets_first, g_sets_follow, g_sets_begins])), (h_sets_first, .inl (tc.1, 8, .inl c_sets_first))]) (k3 w15) [(h_, .inr (8, [.ref h_rules, .ref h_sets, g_select, g_possible, g_lowest, g_conflicts])), (h_rules, .inr (6, [.ref h_rules_codes, .int c_rules_count])), (h_rules_codes, .inl (tc.1, 24, .inl c_rules_codes)), (h_sets, .inr (7, [.int c_sets_nullable, .ref h_sets_first, g_sets_follow, g_sets_begins])), (h_sets_first, .inl (tc.1, 8, .inl c_sets_first))] 74 [(3, .int w15)] []) (rc5 : Int32 × Int32 → Option (Int32)) (hrc5 : ∀ v4 : Int32 × Int32, jo X 6 (0, 0) (jQI0 X [(h_, .inr (8, [.ref h_rules, .ref h_sets, g_select, g_possible, g_lowest, g_conflicts])), (h_rules, .inr (6, [.ref h_rules_codes, .int c_rules_count])), (h_rules_codes, .inl (tc.1, 24, .inl c_rules_codes)), (h_sets, .inr (7, [.int c_sets_nullable, .ref h_sets_first, g_sets_follow, g_sets_begins])), (h_sets_first, .inl (tc.1, 8, .inl c_sets_first))]) (rc5 v4) [(h_, .inr (8, [.ref h_rules, .ref h_sets, g_select, g_possible, g_lowest, g_conflicts])), (h_rules, .inr (6, [.ref h_rules_codes, .int c_rules_count])), (h_rules_codes, .inl (tc.1, 24, .inl c_rules_codes)), (h_sets, .inr (7, [.int c_sets_nullable, .ref h_sets_first, g_sets_follow, g_sets_begins])), (h_sets_first, .inl (tc.1, 8, .inl c_sets_first))] 11 [(0, .ref h_), (1, .int p1), (2, .int x1), (3, .int v4.1), (4, .int v4.2)] []) (v4 : Int32 × Int32) : jo X 6 (0, 0) (jQI0 X [(h_, .inr (8, [.ref h_rules, .ref h_sets, g_select, g_possible, g_lowest, g_conflicts])), (h_rules, .inr (6, [.ref h_rules_codes, .int c_rules_count])), (h_rules_codes, .inl (tc.1, 24, .inl c_rules_codes)), (h_sets, .inr (7, [.int c_sets_nullable, .ref h_sets_first, g_sets_follow, g_sets_begins])), (h_sets_first, .inl (tc.1, 8, .inl c_sets_first))]) (bX8_kindOf_11 N p1 c_rules_codes c_rules_count c_sets_nullable c_sets_first x1 k3 rc5 v4) [(h_, .inr (8, [.ref h_rules, .ref h_sets, g_select, g_possible, g_lowest, g_conflicts])), (h_rules, .inr (6, [.ref h_rules_codes, .int c_rules_count])), (h_rules_codes, .inl (tc.1, 24, .inl c_rules_codes)), (h_sets, .inr (7, [.int c_sets_nullable, .ref h_sets_first, g_sets_follow, g_sets_begins])), (h_sets_first, .inl (tc.1, 8, .inl c_sets_first))] 11 [(0, .ref h_), (1, .int p1), (2, .int x1), (3, .int v4.1), (4, .int v4.2)] [] := by
  unfold bX8_kindOf_11
  refine j_iload C d8_kindOf_11 4 rfl ?_
  refine j_const C d8_kindOf_13 ?_
  refine j_icmp_ge C d8_kindOf_14 ?_ ?_
  · exact j_sub [3] rfl (hk3 _)
  · refine j_iload C d8_kindOf_17 1 rfl ?_
    refine j_const C d8_kindOf_18 ?_
    refine j_iload C d8_kindOf_19 4 rfl ?_
    refine j_iadd C d8_kindOf_21 ?_
    refine j_callSI0 (As := [.int p1, .int ((2 : Int32) + v4.2)]) C d8_kindOf_22 ms8_84 (kX8_partOf _ _ tc p1 ((2 : Int32) + v4.2)) ⟨rfl, rfl, Nat.le_of_ble_eq_true rfl, Nat.le_of_ble_eq_true rfl⟩ rfl [] rfl rfl rfl (Nat.le_of_ble_eq_true rfl) (fun x6 => ?_)
    refine j_istore C d8_kindOf_25 (by decide) (lv' := [(5, .int x6), (0, .ref h_), (1, .int p1), (2, .int x1), (3, .int v4.1), (4, .int v4.2)]) rfl ?_
    refine j_iload C d8_kindOf_27 4 rfl ?_
    refine j_aload C d8_kindOf_28 1 rfl ?_
    refine j_get C d8_kindOf_29 fl8_21 0 rfl rfl ?_
    refine j_iload C d8_kindOf_32 0 rfl ?_
    refine j_callVI0 (As := [.int x6]) C d8_kindOf_34 mv8_87 (kX6_has _ _ tc h_rules (.ref h_rules_codes) c_rules_count x6) ⟨rfl, rfl, Nat.le_of_ble_eq_true rfl, Nat.le_of_ble_eq_true rfl⟩ rfl 1 rfl [1] rfl rfl rfl (Nat.le_of_ble_eq_true rfl) (fun x7 => ?_)
    refine j_join 66 (fun v8 => [(h_, .inr (8, [.ref h_rules, .ref h_sets, g_select, g_possible, g_lowest, g_conflicts])), (h_rules, .inr (6, [.ref h_rules_codes, .int c_rules_count])), (h_rules_codes, .inl (tc.1, 24, .inl c_rules_codes)), (h_sets, .inr (7, [.int c_sets_nullable, .ref h_sets_first, g_sets_follow, g_sets_begins])), (h_sets_first, .inl (tc.1, 8, .inl c_sets_first))]) (fun v8 => [(0, .ref h_), (1, .int p1), (2, .int x1), (4, .int v4.2)]) (fun v8 => [.int v8, .int v4.1]) (fun v8 => ?_) (fun k11 hk11 => ?_)
    · refine j_isub C d8_kindOf_66 ?_
      refine j_leti (fun x9 => ?_)
      refine j_istore C d8_kindOf_67 (by decide) (lv' := [(3, .int x9), (0, .ref h_), (1, .int p1), (2, .int x1), (4, .int v4.2)]) rfl ?_
      refine j_iincN C (fun x10 => [(4, .int x10), (3, .int x9), (0, .ref h_), (1, .int p1), (2, .int x1)]) d8_kindOf_68 4 rfl (by decide +kernel) (by decide) (fun _ => rfl) (fun x10 => ?_)
      refine j_goto C d8_kindOf_71 ?_
      exact j_sub [2, 3, 4, 1, 0] rfl (hrc5 _)
    · refine j_if_eq C d8_kindOf_37 ?_ ?_
      · refine j_const C d8_kindOf_65 ?_
        exact j_sub [1, 2, 3, 5] rfl (hk11 _)
      · refine j_aload C d8_kindOf_40 1 rfl ?_
        refine j_get C d8_kindOf_41 fl8_25 0 rfl rfl ?_
        refine j_aload C d8_kindOf_44 1 rfl ?_
        refine j_get C d8_kindOf_45 fl8_21 0 rfl rfl ?_
        refine j_get C d8_kindOf_48 fl8_35 1 rfl rfl ?_
        refine j_iload C d8_kindOf_51 0 rfl ?_
        refine j_iald C d8_kindOf_53 2 rfl (fun x12 => ?_)
        refine j_const C d8_kindOf_54 ?_
        refine j_callVI0 (As := [.int x12, .int 0]) C d8_kindOf_55 mv8_52 (kX7_firstFrom _ _ tc N h_sets h_sets_first g_sets_follow g_sets_begins c_sets_nullable c_sets_first x12 0) ⟨rfl, rfl, Nat.le_of_ble_eq_true rfl, Nat.le_of_ble_eq_true rfl⟩ rfl 3 rfl [3, 4] rfl rfl rfl (Nat.le_of_ble_eq_true rfl) (fun x13 => ?_)
        refine j_iload C d8_kindOf_58 3 rfl ?_
        refine j_callNI0 (As := [.int x13, .int x1]) C d8_kindOf_59 mn8_68 (kX11_bit _ _ tc x13 x1) ⟨rfl, rfl, Nat.le_of_ble_eq_true rfl, Nat.le_of_ble_eq_true rfl⟩ rfl [] rfl rfl rfl (Nat.le_of_ble_eq_true rfl) (fun x14 => ?_)
        refine j_goto C d8_kindOf_62 ?_
        exact j_sub [1, 2, 3, 5] rfl (hk11 _)

set_option maxHeartbeats 4000000 in
set_option maxRecDepth 100000 in
theorem kX8_kindOf (l : Launch) (D : va_G) (tc : jTC) (N : Nat) (h_ h_rules h_rules_codes h_sets h_sets_first : Nat) (g_select g_possible g_lowest g_conflicts g_sets_follow g_sets_begins : Value) (c_rules_codes : (Nat → Int32)) (c_rules_count : Int32) (c_sets_nullable : Int32) (c_sets_first : (Nat → Int32)) (p1 : Int32) : ctI0 l D tc yX8_kindOf (Cond.code yX8_kindOf cX8_kindOf 6 (some .int) :: jtb) ({ frames := 3, cells := 0, slots := 0, locals := 66 } : Room) [.ref h_, .int p1] [(h_, .inr (8, [.ref h_rules, .ref h_sets, g_select, g_possible, g_lowest, g_conflicts])), (h_rules, .inr (6, [.ref h_rules_codes, .int c_rules_count])), (h_rules_codes, .inl (tc.1, 24, .inl c_rules_codes)), (h_sets, .inr (7, [.int c_sets_nullable, .ref h_sets_first, g_sets_follow, g_sets_begins])), (h_sets_first, .inl (tc.1, 8, .inl c_sets_first))] (fX8_kindOf N c_rules_codes c_rules_count c_sets_nullable c_sets_first p1) := by
  refine ctI0_of (lv0 := [(0, .ref h_), (1, .int p1)]) (by decide +kernel) (Nat.le_of_ble_eq_true rfl) rfl (fun X C => ?_)
  unfold fX8_kindOf
  refine j_iload C d8_kindOf_0 1 rfl ?_
  refine j_const C d8_kindOf_1 ?_
  refine j_callSI0 (As := [.int p1, .int 1]) C d8_kindOf_2 ms8_84 (kX8_partOf _ _ tc p1 1) ⟨rfl, rfl, Nat.le_of_ble_eq_true rfl, Nat.le_of_ble_eq_true rfl⟩ rfl [] rfl rfl rfl (Nat.le_of_ble_eq_true rfl) (fun x1 => ?_)
  refine j_istore C d8_kindOf_5 (by decide) (lv' := [(2, .int x1), (0, .ref h_), (1, .int p1)]) rfl ?_
  refine j_const C d8_kindOf_6 ?_
  refine j_istore C d8_kindOf_7 (by decide) (lv' := [(3, .int 2), (2, .int x1), (0, .ref h_), (1, .int p1)]) rfl ?_
  refine j_const C d8_kindOf_8 ?_
  refine j_istore C d8_kindOf_9 (by decide) (lv' := [(4, .int 0), (3, .int 2), (2, .int x1), (0, .ref h_), (1, .int p1)]) rfl ?_
  refine j_join 74 (fun v2 => [(h_, .inr (8, [.ref h_rules, .ref h_sets, g_select, g_possible, g_lowest, g_conflicts])), (h_rules, .inr (6, [.ref h_rules_codes, .int c_rules_count])), (h_rules_codes, .inl (tc.1, 24, .inl c_rules_codes)), (h_sets, .inr (7, [.int c_sets_nullable, .ref h_sets_first, g_sets_follow, g_sets_begins])), (h_sets_first, .inl (tc.1, 8, .inl c_sets_first))]) (fun v2 => [(3, .int v2)]) (fun v2 => []) (fun v2 => ?_) (fun k3 hk3 => ?_)
  · refine j_iload C d8_kindOf_74 0 rfl ?_
    exact j_iret0 C d8_kindOf_75
  · exact j_sub [3, 4, 2, 1, 0] rfl (j_loop (fun v4 => [(h_, .inr (8, [.ref h_rules, .ref h_sets, g_select, g_possible, g_lowest, g_conflicts])), (h_rules, .inr (6, [.ref h_rules_codes, .int c_rules_count])), (h_rules_codes, .inl (tc.1, 24, .inl c_rules_codes)), (h_sets, .inr (7, [.int c_sets_nullable, .ref h_sets_first, g_sets_follow, g_sets_begins])), (h_sets_first, .inl (tc.1, 8, .inl c_sets_first))]) (fun v4 => [(0, .ref h_), (1, .int p1), (2, .int x1), (3, .int v4.1), (4, .int v4.2)]) (fun rc5 hrc5 v4 => wX8_kindOf_11 C N h_ h_rules h_rules_codes h_sets h_sets_first g_select g_possible g_lowest g_conflicts g_sets_follow g_sets_begins p1 c_rules_codes c_rules_count c_sets_nullable c_sets_first x1 k3 hk3 rc5 hrc5 v4) N _)

theorem d10_terminalOf_0 : jdi cX10_terminalOf 0 2 1 := Or.inl ⟨2, by decide +kernel⟩
theorem d10_terminalOf_1 : jdb cX10_terminalOf 1 (.ifCond .lt 12) 12 13 4 := by decide +kernel
theorem d10_terminalOf_4 : jdi cX10_terminalOf 4 2 5 := Or.inl ⟨2, by decide +kernel⟩
theorem d10_terminalOf_5 : jda cX10_terminalOf 5 0 6 := Or.inl ⟨0, by decide +kernel⟩
theorem d10_terminalOf_6 : jdi cX10_terminalOf 6 1 7 := Or.inl ⟨1, by decide +kernel⟩
theorem d10_terminalOf_7 : jd cX10_terminalOf 7 (.invokevirtual 33) 3 10 := by decide +kernel
theorem d10_terminalOf_10 : jdb cX10_terminalOf 10 (.if_icmp .lt 6) 6 16 13 := by decide +kernel
theorem d10_terminalOf_13 : jdk cX10_terminalOf 13 (-2) 15 := Or.inr (Or.inl ⟨(-2), by decide +kernel⟩)
theorem d10_terminalOf_15 : decode cX10_terminalOf 15 = .ok (.ireturn, 1) := by decide +kernel
theorem d10_terminalOf_16 : jda cX10_terminalOf 16 0 17 := Or.inl ⟨0, by decide +kernel⟩
theorem d10_terminalOf_17 : jdi cX10_terminalOf 17 1 18 := Or.inl ⟨1, by decide +kernel⟩
theorem d10_terminalOf_18 : jd cX10_terminalOf 18 (.invokevirtual 33) 3 21 := by decide +kernel
theorem d10_terminalOf_21 : jdk cX10_terminalOf 21 1 22 := Or.inl ⟨1, by decide +kernel⟩
theorem d10_terminalOf_22 : jd cX10_terminalOf 22 (.isub) 1 23 := by decide +kernel
theorem d10_terminalOf_23 : jdi cX10_terminalOf 23 2 24 := Or.inl ⟨2, by decide +kernel⟩
theorem d10_terminalOf_24 : jd cX10_terminalOf 24 (.isub) 1 25 := by decide +kernel
theorem d10_terminalOf_25 : jds cX10_terminalOf 25 3 26 := Or.inl ⟨3, by decide +kernel⟩
theorem d10_terminalOf_26 : jdi cX10_terminalOf 26 3 27 := Or.inl ⟨3, by decide +kernel⟩
theorem d10_terminalOf_27 : jdk cX10_terminalOf 27 20 29 := Or.inr (Or.inl ⟨20, by decide +kernel⟩)
theorem d10_terminalOf_29 : jdb cX10_terminalOf 29 (.if_icmp .ge 12) 12 41 32 := by decide +kernel
theorem d10_terminalOf_32 : jda cX10_terminalOf 32 0 33 := Or.inl ⟨0, by decide +kernel⟩
theorem d10_terminalOf_33 : jd cX10_terminalOf 33 (.getfield 25) 3 36 := by decide +kernel
theorem d10_terminalOf_36 : jdi cX10_terminalOf 36 1 37 := Or.inl ⟨1, by decide +kernel⟩
theorem d10_terminalOf_37 : jd cX10_terminalOf 37 (.laload) 1 38 := by decide +kernel
theorem d10_terminalOf_38 : jdb cX10_terminalOf 38 (.goto 9) 9 47 41 := by decide +kernel
theorem d10_terminalOf_41 : jda cX10_terminalOf 41 0 42 := Or.inl ⟨0, by decide +kernel⟩
theorem d10_terminalOf_42 : jd cX10_terminalOf 42 (.getfield 21) 3 45 := by decide +kernel
theorem d10_terminalOf_45 : jdi cX10_terminalOf 45 1 46 := Or.inl ⟨1, by decide +kernel⟩
theorem d10_terminalOf_46 : jd cX10_terminalOf 46 (.laload) 1 47 := by decide +kernel
theorem d10_terminalOf_47 : jd cX10_terminalOf 47 (.lstore 4) 2 49 := by decide +kernel
theorem d10_terminalOf_49 : jdi cX10_terminalOf 49 3 50 := Or.inl ⟨3, by decide +kernel⟩
theorem d10_terminalOf_50 : jdk cX10_terminalOf 50 20 52 := Or.inr (Or.inl ⟨20, by decide +kernel⟩)
theorem d10_terminalOf_52 : jdb cX10_terminalOf 52 (.if_icmp .ge 7) 7 59 55 := by decide +kernel
theorem d10_terminalOf_55 : jdi cX10_terminalOf 55 3 56 := Or.inl ⟨3, by decide +kernel⟩
theorem d10_terminalOf_56 : jdb cX10_terminalOf 56 (.goto 7) 7 63 59 := by decide +kernel
theorem d10_terminalOf_59 : jdi cX10_terminalOf 59 3 60 := Or.inl ⟨3, by decide +kernel⟩
theorem d10_terminalOf_60 : jdk cX10_terminalOf 60 20 62 := Or.inr (Or.inl ⟨20, by decide +kernel⟩)
theorem d10_terminalOf_62 : jd cX10_terminalOf 62 (.isub) 1 63 := by decide +kernel
theorem d10_terminalOf_63 : jds cX10_terminalOf 63 6 65 := Or.inr (by decide +kernel)
theorem d10_terminalOf_65 : jdl cX10_terminalOf 65 4 67 := Or.inr (by decide +kernel)
theorem d10_terminalOf_67 : jdk cX10_terminalOf 67 3 68 := Or.inl ⟨3, by decide +kernel⟩
theorem d10_terminalOf_68 : jdi cX10_terminalOf 68 6 70 := Or.inr (by decide +kernel)
theorem d10_terminalOf_70 : jd cX10_terminalOf 70 (.imul) 1 71 := by decide +kernel
theorem d10_terminalOf_71 : jd cX10_terminalOf 71 (.lshr) 1 72 := by decide +kernel
theorem d10_terminalOf_72 : jd cX10_terminalOf 72 (.l2i) 1 73 := by decide +kernel
theorem d10_terminalOf_73 : jdk cX10_terminalOf 73 7 75 := Or.inr (Or.inl ⟨7, by decide +kernel⟩)
theorem d10_terminalOf_75 : jd cX10_terminalOf 75 (.iand) 1 76 := by decide +kernel
theorem d10_terminalOf_76 : decode cX10_terminalOf 76 = .ok (.ireturn, 1) := by decide +kernel
set_option maxHeartbeats 4000000 in
set_option maxRecDepth 100000 in
theorem kX10_terminalOf (l : Launch) (D : va_G) (tc : jTC) (n : Nat) (h_ h_costs h_highs h_lows : Nat) (c_costs : (Nat → Int32)) (c_highs : (Nat → Int64)) (c_lows : (Nat → Int64)) (p1 : Int32) (p2 : Int32) : ctI0 l D tc yX10_terminalOf (Cond.code yX10_terminalOf cX10_terminalOf 7 (some .int) :: jtb) ({ frames := 2, cells := 0, slots := 0, locals := 42 } : Room) [.ref h_, .int p1, .int p2] [(h_, .inr (10, [.ref h_costs, .ref h_highs, .ref h_lows])), (h_costs, .inl (tc.1, n, .inl c_costs)), (h_highs, .inl (tc.2.1, n, .inr (.inl c_highs))), (h_lows, .inl (tc.2.1, n, .inr (.inl c_lows)))] (fX10_terminalOf n c_costs c_highs c_lows p1 p2) := by
  refine ctI0_of (lv0 := [(0, .ref h_), (1, .int p1), (2, .int p2)]) (by decide +kernel) (Nat.le_of_ble_eq_true rfl) rfl (fun X C => ?_)
  unfold fX10_terminalOf
  refine j_iload C d10_terminalOf_0 2 rfl ?_
  refine j_join 13 (fun v1 => [(h_, .inr (10, [.ref h_costs, .ref h_highs, .ref h_lows])), (h_costs, .inl (tc.1, n, .inl c_costs)), (h_highs, .inl (tc.2.1, n, .inr (.inl c_highs))), (h_lows, .inl (tc.2.1, n, .inr (.inl c_lows)))]) (fun v1 => []) (fun v1 => []) (fun v1 => ?_) (fun k2 hk2 => ?_)
  · refine j_const C d10_terminalOf_13 ?_
    exact j_iret0 C d10_terminalOf_15
  · refine j_if_lt C d10_terminalOf_1 ?_ ?_
    · exact j_sub [] rfl (hk2 _)
    · refine j_iload C d10_terminalOf_4 2 rfl ?_
      refine j_aload C d10_terminalOf_5 0 rfl ?_
      refine j_iload C d10_terminalOf_6 1 rfl ?_
      refine j_callVI0 (As := [.int p1]) C d10_terminalOf_7 mv10_33 (kX10_lengthOf _ _ tc n h_ h_costs (.ref h_highs) (.ref h_lows) c_costs p1) ⟨rfl, rfl, Nat.le_of_ble_eq_true rfl, Nat.le_of_ble_eq_true rfl⟩ rfl 0 rfl [0, 1] rfl rfl rfl (Nat.le_of_ble_eq_true rfl) (fun x3 => ?_)
      refine j_icmp_lt C d10_terminalOf_10 ?_ ?_
      · refine j_aload C d10_terminalOf_16 0 rfl ?_
        refine j_iload C d10_terminalOf_17 1 rfl ?_
        refine j_callVI0 (As := [.int p1]) C d10_terminalOf_18 mv10_33 (kX10_lengthOf _ _ tc n h_ h_costs (.ref h_highs) (.ref h_lows) c_costs p1) ⟨rfl, rfl, Nat.le_of_ble_eq_true rfl, Nat.le_of_ble_eq_true rfl⟩ rfl 0 rfl [0, 1] rfl rfl rfl (Nat.le_of_ble_eq_true rfl) (fun x4 => ?_)
        refine j_const C d10_terminalOf_21 ?_
        refine j_isub C d10_terminalOf_22 ?_
        refine j_iload C d10_terminalOf_23 2 rfl ?_
        refine j_isub C d10_terminalOf_24 ?_
        refine j_leti (fun x5 => ?_)
        refine j_istore C d10_terminalOf_25 (by decide) (lv' := [(3, .int x5), (0, .ref h_), (1, .int p1), (2, .int p2)]) rfl ?_
        refine j_iload C d10_terminalOf_26 0 rfl ?_
        refine j_const C d10_terminalOf_27 ?_
        refine j_join 47 (fun v6 => [(h_, .inr (10, [.ref h_costs, .ref h_highs, .ref h_lows])), (h_costs, .inl (tc.1, n, .inl c_costs)), (h_highs, .inl (tc.2.1, n, .inr (.inl c_highs))), (h_lows, .inl (tc.2.1, n, .inr (.inl c_lows)))]) (fun v6 => [(3, .int x5)]) (fun v6 => [.long v6]) (fun v6 => ?_) (fun k9 hk9 => ?_)
        · refine j_lstore C d10_terminalOf_47 (by decide) (lv' := [(4, .long v6), (3, .int x5)]) rfl ?_
          refine j_iload C d10_terminalOf_49 1 rfl ?_
          refine j_const C d10_terminalOf_50 ?_
          refine j_join 63 (fun v7 => [(h_, .inr (10, [.ref h_costs, .ref h_highs, .ref h_lows])), (h_costs, .inl (tc.1, n, .inl c_costs)), (h_highs, .inl (tc.2.1, n, .inr (.inl c_highs))), (h_lows, .inl (tc.2.1, n, .inr (.inl c_lows)))]) (fun v7 => [(4, .long v6)]) (fun v7 => [.int v7]) (fun v7 => ?_) (fun k8 hk8 => ?_)
          · refine j_istore C d10_terminalOf_63 (by decide) (lv' := [(6, .int v7), (4, .long v6)]) rfl ?_
            refine j_lload C d10_terminalOf_65 1 rfl ?_
            refine j_const C d10_terminalOf_67 ?_
            refine j_iload C d10_terminalOf_68 0 rfl ?_
            refine j_imul C d10_terminalOf_70 ?_
            refine j_lshr C d10_terminalOf_71 ?_
            refine j_l2i C d10_terminalOf_72 ?_
            refine j_const C d10_terminalOf_73 ?_
            refine j_iand C d10_terminalOf_75 ?_
            exact j_iret0 C d10_terminalOf_76
          · refine j_icmp_ge C d10_terminalOf_52 ?_ ?_
            · refine j_iload C d10_terminalOf_59 1 rfl ?_
              refine j_const C d10_terminalOf_60 ?_
              refine j_isub C d10_terminalOf_62 ?_
              exact j_sub [0] rfl (hk8 _)
            · refine j_iload C d10_terminalOf_55 1 rfl ?_
              refine j_goto C d10_terminalOf_56 ?_
              exact j_sub [0] rfl (hk8 _)
        · refine j_icmp_ge C d10_terminalOf_29 ?_ ?_
          · refine j_aload C d10_terminalOf_41 1 rfl ?_
            refine j_get C d10_terminalOf_42 fl10_21 0 rfl rfl ?_
            refine j_iload C d10_terminalOf_45 2 rfl ?_
            refine j_lald C d10_terminalOf_46 2 rfl (fun x10 => ?_)
            exact j_sub [0] rfl (hk9 _)
          · refine j_aload C d10_terminalOf_32 1 rfl ?_
            refine j_get C d10_terminalOf_33 fl10_25 0 rfl rfl ?_
            refine j_iload C d10_terminalOf_36 2 rfl ?_
            refine j_lald C d10_terminalOf_37 3 rfl (fun x11 => ?_)
            refine j_goto C d10_terminalOf_38 ?_
            exact j_sub [0] rfl (hk9 _)
      · exact j_sub [] rfl (hk2 _)

theorem d11_productionCount_0 : jda cX11_productionCount 0 0 1 := Or.inl ⟨0, by decide +kernel⟩
theorem d11_productionCount_1 : jd cX11_productionCount 1 (.getfield 12) 3 4 := by decide +kernel
theorem d11_productionCount_4 : jd cX11_productionCount 4 (.getfield 112) 3 7 := by decide +kernel
theorem d11_productionCount_7 : decode cX11_productionCount 7 = .ok (.ireturn, 1) := by decide +kernel
set_option maxHeartbeats 4000000 in
set_option maxRecDepth 100000 in
theorem kX11_productionCount (l : Launch) (D : va_G) (tc : jTC) (h_ h_rules : Nat) (g_history g_sets g_setsBefore g_table g_failure g_input g_parser g_examples g_repairer g_rules_codes : Value) (c_rules_count : Int32) : ctI0 l D tc yX11_productionCount (Cond.code yX11_productionCount cX11_productionCount 1 (some .int) :: jtb) ({ frames := 0, cells := 0, slots := 0, locals := 0 } : Room) [.ref h_] [(h_, .inr (11, [.ref h_rules, g_history, g_sets, g_setsBefore, g_table, g_failure, g_input, g_parser, g_examples, g_repairer])), (h_rules, .inr (6, [g_rules_codes, .int c_rules_count]))] (fX11_productionCount c_rules_count) := by
  refine ctI0_of (lv0 := [(0, .ref h_)]) (by decide +kernel) (Nat.le_of_ble_eq_true rfl) rfl (fun X C => ?_)
  unfold fX11_productionCount
  refine j_aload C d11_productionCount_0 0 rfl ?_
  refine j_get C d11_productionCount_1 fl11_12 0 rfl rfl ?_
  refine j_get C d11_productionCount_4 fl11_112 1 rfl rfl ?_
  exact j_iret0 C d11_productionCount_7

theorem d11_leftSide_0 : jda cX11_leftSide 0 0 1 := Or.inl ⟨0, by decide +kernel⟩
theorem d11_leftSide_1 : jd cX11_leftSide 1 (.getfield 12) 3 4 := by decide +kernel
theorem d11_leftSide_4 : jdi cX11_leftSide 4 1 5 := Or.inl ⟨1, by decide +kernel⟩
theorem d11_leftSide_5 : jd cX11_leftSide 5 (.invokevirtual 127) 3 8 := by decide +kernel
theorem d11_leftSide_8 : jdb cX11_leftSide 8 (.ifCond .eq 18) 18 26 11 := by decide +kernel
theorem d11_leftSide_11 : jda cX11_leftSide 11 0 12 := Or.inl ⟨0, by decide +kernel⟩
theorem d11_leftSide_12 : jd cX11_leftSide 12 (.getfield 12) 3 15 := by decide +kernel
theorem d11_leftSide_15 : jd cX11_leftSide 15 (.getfield 136) 3 18 := by decide +kernel
theorem d11_leftSide_18 : jdi cX11_leftSide 18 1 19 := Or.inl ⟨1, by decide +kernel⟩
theorem d11_leftSide_19 : jd cX11_leftSide 19 (.iaload) 1 20 := by decide +kernel
theorem d11_leftSide_20 : jd cX11_leftSide 20 (.invokestatic 140) 3 23 := by decide +kernel
theorem d11_leftSide_23 : jdb cX11_leftSide 23 (.goto 4) 4 27 26 := by decide +kernel
theorem d11_leftSide_26 : jdk cX11_leftSide 26 (-1) 27 := Or.inl ⟨(-1), by decide +kernel⟩
theorem d11_leftSide_27 : decode cX11_leftSide 27 = .ok (.ireturn, 1) := by decide +kernel
set_option maxHeartbeats 4000000 in
set_option maxRecDepth 100000 in
theorem kX11_leftSide (l : Launch) (D : va_G) (tc : jTC) (h_ h_rules h_rules_codes : Nat) (g_history g_sets g_setsBefore g_table g_failure g_input g_parser g_examples g_repairer : Value) (c_rules_codes : (Nat → Int32)) (c_rules_count : Int32) (p1 : Int32) : ctI0 l D tc yX11_leftSide (Cond.code yX11_leftSide cX11_leftSide 2 (some .int) :: jtb) ({ frames := 1, cells := 0, slots := 0, locals := 21 } : Room) [.ref h_, .int p1] [(h_, .inr (11, [.ref h_rules, g_history, g_sets, g_setsBefore, g_table, g_failure, g_input, g_parser, g_examples, g_repairer])), (h_rules, .inr (6, [.ref h_rules_codes, .int c_rules_count])), (h_rules_codes, .inl (tc.1, 24, .inl c_rules_codes))] (fX11_leftSide c_rules_codes c_rules_count p1) := by
  refine ctI0_of (lv0 := [(0, .ref h_), (1, .int p1)]) (by decide +kernel) (Nat.le_of_ble_eq_true rfl) rfl (fun X C => ?_)
  unfold fX11_leftSide
  refine j_aload C d11_leftSide_0 0 rfl ?_
  refine j_get C d11_leftSide_1 fl11_12 0 rfl rfl ?_
  refine j_iload C d11_leftSide_4 1 rfl ?_
  refine j_callVI0 (As := [.int p1]) C d11_leftSide_5 mv11_127 (kX6_has _ _ tc h_rules (.ref h_rules_codes) c_rules_count p1) ⟨rfl, rfl, Nat.le_of_ble_eq_true rfl, Nat.le_of_ble_eq_true rfl⟩ rfl 1 rfl [1] rfl rfl rfl (Nat.le_of_ble_eq_true rfl) (fun x1 => ?_)
  refine j_join 27 (fun v2 => [(h_, .inr (11, [.ref h_rules, g_history, g_sets, g_setsBefore, g_table, g_failure, g_input, g_parser, g_examples, g_repairer])), (h_rules, .inr (6, [.ref h_rules_codes, .int c_rules_count])), (h_rules_codes, .inl (tc.1, 24, .inl c_rules_codes))]) (fun v2 => []) (fun v2 => [.int v2]) (fun v2 => ?_) (fun k3 hk3 => ?_)
  · exact j_iret0 C d11_leftSide_27
  · refine j_if_eq C d11_leftSide_8 ?_ ?_
    · refine j_const C d11_leftSide_26 ?_
      exact j_sub [] rfl (hk3 _)
    · refine j_aload C d11_leftSide_11 0 rfl ?_
      refine j_get C d11_leftSide_12 fl11_12 0 rfl rfl ?_
      refine j_get C d11_leftSide_15 fl11_136 1 rfl rfl ?_
      refine j_iload C d11_leftSide_18 1 rfl ?_
      refine j_iald C d11_leftSide_19 2 rfl (fun x4 => ?_)
      refine j_callSI0 (As := [.int x4]) C d11_leftSide_20 ms11_140 (kX6_leftOf _ _ tc x4) ⟨rfl, rfl, Nat.le_of_ble_eq_true rfl, Nat.le_of_ble_eq_true rfl⟩ rfl [] rfl rfl rfl (Nat.le_of_ble_eq_true rfl) (fun x5 => ?_)
      refine j_goto C d11_leftSide_23 ?_
      exact j_sub [] rfl (hk3 _)

theorem d11_rightLength_0 : jda cX11_rightLength 0 0 1 := Or.inl ⟨0, by decide +kernel⟩
theorem d11_rightLength_1 : jd cX11_rightLength 1 (.getfield 12) 3 4 := by decide +kernel
theorem d11_rightLength_4 : jdi cX11_rightLength 4 1 5 := Or.inl ⟨1, by decide +kernel⟩
theorem d11_rightLength_5 : jd cX11_rightLength 5 (.invokevirtual 127) 3 8 := by decide +kernel
theorem d11_rightLength_8 : jdb cX11_rightLength 8 (.ifCond .eq 18) 18 26 11 := by decide +kernel
theorem d11_rightLength_11 : jda cX11_rightLength 11 0 12 := Or.inl ⟨0, by decide +kernel⟩
theorem d11_rightLength_12 : jd cX11_rightLength 12 (.getfield 12) 3 15 := by decide +kernel
theorem d11_rightLength_15 : jd cX11_rightLength 15 (.getfield 136) 3 18 := by decide +kernel
theorem d11_rightLength_18 : jdi cX11_rightLength 18 1 19 := Or.inl ⟨1, by decide +kernel⟩
theorem d11_rightLength_19 : jd cX11_rightLength 19 (.iaload) 1 20 := by decide +kernel
theorem d11_rightLength_20 : jd cX11_rightLength 20 (.invokestatic 143) 3 23 := by decide +kernel
theorem d11_rightLength_23 : jdb cX11_rightLength 23 (.goto 4) 4 27 26 := by decide +kernel
theorem d11_rightLength_26 : jdk cX11_rightLength 26 (-1) 27 := Or.inl ⟨(-1), by decide +kernel⟩
theorem d11_rightLength_27 : decode cX11_rightLength 27 = .ok (.ireturn, 1) := by decide +kernel
set_option maxHeartbeats 4000000 in
set_option maxRecDepth 100000 in
theorem kX11_rightLength (l : Launch) (D : va_G) (tc : jTC) (h_ h_rules h_rules_codes : Nat) (g_history g_sets g_setsBefore g_table g_failure g_input g_parser g_examples g_repairer : Value) (c_rules_codes : (Nat → Int32)) (c_rules_count : Int32) (p1 : Int32) : ctI0 l D tc yX11_rightLength (Cond.code yX11_rightLength cX11_rightLength 2 (some .int) :: jtb) ({ frames := 1, cells := 0, slots := 0, locals := 21 } : Room) [.ref h_, .int p1] [(h_, .inr (11, [.ref h_rules, g_history, g_sets, g_setsBefore, g_table, g_failure, g_input, g_parser, g_examples, g_repairer])), (h_rules, .inr (6, [.ref h_rules_codes, .int c_rules_count])), (h_rules_codes, .inl (tc.1, 24, .inl c_rules_codes))] (fX11_rightLength c_rules_codes c_rules_count p1) := by
  refine ctI0_of (lv0 := [(0, .ref h_), (1, .int p1)]) (by decide +kernel) (Nat.le_of_ble_eq_true rfl) rfl (fun X C => ?_)
  unfold fX11_rightLength
  refine j_aload C d11_rightLength_0 0 rfl ?_
  refine j_get C d11_rightLength_1 fl11_12 0 rfl rfl ?_
  refine j_iload C d11_rightLength_4 1 rfl ?_
  refine j_callVI0 (As := [.int p1]) C d11_rightLength_5 mv11_127 (kX6_has _ _ tc h_rules (.ref h_rules_codes) c_rules_count p1) ⟨rfl, rfl, Nat.le_of_ble_eq_true rfl, Nat.le_of_ble_eq_true rfl⟩ rfl 1 rfl [1] rfl rfl rfl (Nat.le_of_ble_eq_true rfl) (fun x1 => ?_)
  refine j_join 27 (fun v2 => [(h_, .inr (11, [.ref h_rules, g_history, g_sets, g_setsBefore, g_table, g_failure, g_input, g_parser, g_examples, g_repairer])), (h_rules, .inr (6, [.ref h_rules_codes, .int c_rules_count])), (h_rules_codes, .inl (tc.1, 24, .inl c_rules_codes))]) (fun v2 => []) (fun v2 => [.int v2]) (fun v2 => ?_) (fun k3 hk3 => ?_)
  · exact j_iret0 C d11_rightLength_27
  · refine j_if_eq C d11_rightLength_8 ?_ ?_
    · refine j_const C d11_rightLength_26 ?_
      exact j_sub [] rfl (hk3 _)
    · refine j_aload C d11_rightLength_11 0 rfl ?_
      refine j_get C d11_rightLength_12 fl11_12 0 rfl rfl ?_
      refine j_get C d11_rightLength_15 fl11_136 1 rfl rfl ?_
      refine j_iload C d11_rightLength_18 1 rfl ?_
      refine j_iald C d11_rightLength_19 2 rfl (fun x4 => ?_)
      refine j_callSI0 (As := [.int x4]) C d11_rightLength_20 ms11_143 (kX6_lengthOf _ _ tc x4) ⟨rfl, rfl, Nat.le_of_ble_eq_true rfl, Nat.le_of_ble_eq_true rfl⟩ rfl [] rfl rfl rfl (Nat.le_of_ble_eq_true rfl) (fun x5 => ?_)
      refine j_goto C d11_rightLength_23 ?_
      exact j_sub [] rfl (hk3 _)

theorem d11_rightSymbol_0 : jda cX11_rightSymbol 0 0 1 := Or.inl ⟨0, by decide +kernel⟩
theorem d11_rightSymbol_1 : jd cX11_rightSymbol 1 (.getfield 12) 3 4 := by decide +kernel
theorem d11_rightSymbol_4 : jdi cX11_rightSymbol 4 1 5 := Or.inl ⟨1, by decide +kernel⟩
theorem d11_rightSymbol_5 : jd cX11_rightSymbol 5 (.invokevirtual 127) 3 8 := by decide +kernel
theorem d11_rightSymbol_8 : jdb cX11_rightSymbol 8 (.ifCond .eq 23) 23 31 11 := by decide +kernel
theorem d11_rightSymbol_11 : jdi cX11_rightSymbol 11 2 12 := Or.inl ⟨2, by decide +kernel⟩
theorem d11_rightSymbol_12 : jdb cX11_rightSymbol 12 (.ifCond .lt 19) 19 31 15 := by decide +kernel
theorem d11_rightSymbol_15 : jdi cX11_rightSymbol 15 2 16 := Or.inl ⟨2, by decide +kernel⟩
theorem d11_rightSymbol_16 : jda cX11_rightSymbol 16 0 17 := Or.inl ⟨0, by decide +kernel⟩
theorem d11_rightSymbol_17 : jd cX11_rightSymbol 17 (.getfield 12) 3 20 := by decide +kernel
theorem d11_rightSymbol_20 : jd cX11_rightSymbol 20 (.getfield 136) 3 23 := by decide +kernel
theorem d11_rightSymbol_23 : jdi cX11_rightSymbol 23 1 24 := Or.inl ⟨1, by decide +kernel⟩
theorem d11_rightSymbol_24 : jd cX11_rightSymbol 24 (.iaload) 1 25 := by decide +kernel
theorem d11_rightSymbol_25 : jd cX11_rightSymbol 25 (.invokestatic 143) 3 28 := by decide +kernel
theorem d11_rightSymbol_28 : jdb cX11_rightSymbol 28 (.if_icmp .lt 5) 5 33 31 := by decide +kernel
theorem d11_rightSymbol_31 : jdk cX11_rightSymbol 31 (-1) 32 := Or.inl ⟨(-1), by decide +kernel⟩
theorem d11_rightSymbol_32 : decode cX11_rightSymbol 32 = .ok (.ireturn, 1) := by decide +kernel
theorem d11_rightSymbol_33 : jda cX11_rightSymbol 33 0 34 := Or.inl ⟨0, by decide +kernel⟩
theorem d11_rightSymbol_34 : jd cX11_rightSymbol 34 (.getfield 12) 3 37 := by decide +kernel
theorem d11_rightSymbol_37 : jd cX11_rightSymbol 37 (.getfield 136) 3 40 := by decide +kernel
theorem d11_rightSymbol_40 : jdi cX11_rightSymbol 40 1 41 := Or.inl ⟨1, by decide +kernel⟩
theorem d11_rightSymbol_41 : jd cX11_rightSymbol 41 (.iaload) 1 42 := by decide +kernel
theorem d11_rightSymbol_42 : jdi cX11_rightSymbol 42 2 43 := Or.inl ⟨2, by decide +kernel⟩
theorem d11_rightSymbol_43 : jd cX11_rightSymbol 43 (.invokestatic 146) 3 46 := by decide +kernel
theorem d11_rightSymbol_46 : decode cX11_rightSymbol 46 = .ok (.ireturn, 1) := by decide +kernel
set_option maxHeartbeats 4000000 in
set_option maxRecDepth 100000 in
theorem kX11_rightSymbol (l : Launch) (D : va_G) (tc : jTC) (h_ h_rules h_rules_codes : Nat) (g_history g_sets g_setsBefore g_table g_failure g_input g_parser g_examples g_repairer : Value) (c_rules_codes : (Nat → Int32)) (c_rules_count : Int32) (p1 : Int32) (p2 : Int32) : ctI0 l D tc yX11_rightSymbol (Cond.code yX11_rightSymbol cX11_rightSymbol 3 (some .int) :: jtb) ({ frames := 1, cells := 0, slots := 0, locals := 21 } : Room) [.ref h_, .int p1, .int p2] [(h_, .inr (11, [.ref h_rules, g_history, g_sets, g_setsBefore, g_table, g_failure, g_input, g_parser, g_examples, g_repairer])), (h_rules, .inr (6, [.ref h_rules_codes, .int c_rules_count])), (h_rules_codes, .inl (tc.1, 24, .inl c_rules_codes))] (fX11_rightSymbol c_rules_codes c_rules_count p1 p2) := by
  refine ctI0_of (lv0 := [(0, .ref h_), (1, .int p1), (2, .int p2)]) (by decide +kernel) (Nat.le_of_ble_eq_true rfl) rfl (fun X C => ?_)
  unfold fX11_rightSymbol
  refine j_aload C d11_rightSymbol_0 0 rfl ?_
  refine j_get C d11_rightSymbol_1 fl11_12 0 rfl rfl ?_
  refine j_iload C d11_rightSymbol_4 1 rfl ?_
  refine j_callVI0 (As := [.int p1]) C d11_rightSymbol_5 mv11_127 (kX6_has _ _ tc h_rules (.ref h_rules_codes) c_rules_count p1) ⟨rfl, rfl, Nat.le_of_ble_eq_true rfl, Nat.le_of_ble_eq_true rfl⟩ rfl 1 rfl [1] rfl rfl rfl (Nat.le_of_ble_eq_true rfl) (fun x1 => ?_)
  refine j_join 31 (fun v2 => [(h_, .inr (11, [.ref h_rules, g_history, g_sets, g_setsBefore, g_table, g_failure, g_input, g_parser, g_examples, g_repairer])), (h_rules, .inr (6, [.ref h_rules_codes, .int c_rules_count])), (h_rules_codes, .inl (tc.1, 24, .inl c_rules_codes))]) (fun v2 => []) (fun v2 => []) (fun v2 => ?_) (fun k3 hk3 => ?_)
  · refine j_const C d11_rightSymbol_31 ?_
    exact j_iret0 C d11_rightSymbol_32
  · refine j_if_eq C d11_rightSymbol_8 ?_ ?_
    · exact j_sub [] rfl (hk3 _)
    · refine j_iload C d11_rightSymbol_11 2 rfl ?_
      refine j_if_lt C d11_rightSymbol_12 ?_ ?_
      · exact j_sub [] rfl (hk3 _)
      · refine j_iload C d11_rightSymbol_15 2 rfl ?_
        refine j_aload C d11_rightSymbol_16 0 rfl ?_
        refine j_get C d11_rightSymbol_17 fl11_12 0 rfl rfl ?_
        refine j_get C d11_rightSymbol_20 fl11_136 1 rfl rfl ?_
        refine j_iload C d11_rightSymbol_23 1 rfl ?_
        refine j_iald C d11_rightSymbol_24 2 rfl (fun x4 => ?_)
        refine j_callSI0 (As := [.int x4]) C d11_rightSymbol_25 ms11_143 (kX6_lengthOf _ _ tc x4) ⟨rfl, rfl, Nat.le_of_ble_eq_true rfl, Nat.le_of_ble_eq_true rfl⟩ rfl [] rfl rfl rfl (Nat.le_of_ble_eq_true rfl) (fun x5 => ?_)
        refine j_icmp_lt C d11_rightSymbol_28 ?_ ?_
        · refine j_aload C d11_rightSymbol_33 0 rfl ?_
          refine j_get C d11_rightSymbol_34 fl11_12 0 rfl rfl ?_
          refine j_get C d11_rightSymbol_37 fl11_136 1 rfl rfl ?_
          refine j_iload C d11_rightSymbol_40 1 rfl ?_
          refine j_iald C d11_rightSymbol_41 2 rfl (fun x6 => ?_)
          refine j_iload C d11_rightSymbol_42 2 rfl ?_
          refine j_callSI0 (As := [.int x6, .int p2]) C d11_rightSymbol_43 ms11_146 (kX6_symbolOf _ _ tc x6 p2) ⟨rfl, rfl, Nat.le_of_ble_eq_true rfl, Nat.le_of_ble_eq_true rfl⟩ rfl [] rfl rfl rfl (Nat.le_of_ble_eq_true rfl) (fun x7 => ?_)
          exact j_iret0 C d11_rightSymbol_46
        · exact j_sub [] rfl (hk3 _)

theorem d11_isNonterminal_0 : jdi cX11_isNonterminal 0 0 1 := Or.inl ⟨0, by decide +kernel⟩
theorem d11_isNonterminal_1 : jdb cX11_isNonterminal 1 (.ifCond .lt 13) 13 14 4 := by decide +kernel
theorem d11_isNonterminal_4 : jdi cX11_isNonterminal 4 0 5 := Or.inl ⟨0, by decide +kernel⟩
theorem d11_isNonterminal_5 : jdk cX11_isNonterminal 5 8 7 := Or.inr (Or.inl ⟨8, by decide +kernel⟩)
theorem d11_isNonterminal_7 : jdb cX11_isNonterminal 7 (.if_icmp .ge 7) 7 14 10 := by decide +kernel
theorem d11_isNonterminal_10 : jdk cX11_isNonterminal 10 1 11 := Or.inl ⟨1, by decide +kernel⟩
theorem d11_isNonterminal_11 : jdb cX11_isNonterminal 11 (.goto 4) 4 15 14 := by decide +kernel
theorem d11_isNonterminal_14 : jdk cX11_isNonterminal 14 0 15 := Or.inl ⟨0, by decide +kernel⟩
theorem d11_isNonterminal_15 : decode cX11_isNonterminal 15 = .ok (.ireturn, 1) := by decide +kernel
set_option maxHeartbeats 4000000 in
set_option maxRecDepth 100000 in
theorem kX11_isNonterminal (l : Launch) (D : va_G) (tc : jTC) (p0 : Int32) : ctI0 l D tc yX11_isNonterminal (Cond.code yX11_isNonterminal cX11_isNonterminal 1 (some .boolean) :: jtb) ({ frames := 0, cells := 0, slots := 0, locals := 0 } : Room) [.int p0] [] (fX11_isNonterminal p0) := by
  refine ctI0_of (lv0 := [(0, .int p0)]) (by decide +kernel) (Nat.le_of_ble_eq_true rfl) rfl (fun X C => ?_)
  unfold fX11_isNonterminal
  refine j_iload C d11_isNonterminal_0 0 rfl ?_
  refine j_join 15 (fun v1 => []) (fun v1 => []) (fun v1 => [.int v1]) (fun v1 => ?_) (fun k2 hk2 => ?_)
  · refine j_gz (fun hz => ?_)
    exact j_zret0 C hz d11_isNonterminal_15
  · refine j_join 14 (fun v3 => []) (fun v3 => []) (fun v3 => []) (fun v3 => ?_) (fun k4 hk4 => ?_)
    · refine j_const C d11_isNonterminal_14 ?_
      exact hk2 _
    · refine j_if_lt C d11_isNonterminal_1 ?_ ?_
      · exact j_sub [] rfl (hk4 _)
      · refine j_iload C d11_isNonterminal_4 0 rfl ?_
        refine j_const C d11_isNonterminal_5 ?_
        refine j_icmp_ge C d11_isNonterminal_7 ?_ ?_
        · exact j_sub [] rfl (hk4 _)
        · refine j_const C d11_isNonterminal_10 ?_
          refine j_goto C d11_isNonterminal_11 ?_
          exact j_sub [] rfl (hk2 _)

theorem d11_nullable_0 : jdi cX11_nullable 0 1 1 := Or.inl ⟨1, by decide +kernel⟩
theorem d11_nullable_1 : jd cX11_nullable 1 (.invokestatic 90) 3 4 := by decide +kernel
theorem d11_nullable_4 : jdb cX11_nullable 4 (.ifCond .eq 17) 17 21 7 := by decide +kernel
theorem d11_nullable_7 : jda cX11_nullable 7 0 8 := Or.inl ⟨0, by decide +kernel⟩
theorem d11_nullable_8 : jd cX11_nullable 8 (.getfield 26) 3 11 := by decide +kernel
theorem d11_nullable_11 : jd cX11_nullable 11 (.getfield 150) 3 14 := by decide +kernel
theorem d11_nullable_14 : jdi cX11_nullable 14 1 15 := Or.inl ⟨1, by decide +kernel⟩
theorem d11_nullable_15 : jd cX11_nullable 15 (.invokestatic 153) 3 18 := by decide +kernel
theorem d11_nullable_18 : jdb cX11_nullable 18 (.goto 4) 4 22 21 := by decide +kernel
theorem d11_nullable_21 : jdk cX11_nullable 21 (-1) 22 := Or.inl ⟨(-1), by decide +kernel⟩
theorem d11_nullable_22 : decode cX11_nullable 22 = .ok (.ireturn, 1) := by decide +kernel
set_option maxHeartbeats 4000000 in
set_option maxRecDepth 100000 in
theorem kX11_nullable (l : Launch) (D : va_G) (tc : jTC) (h_ h_sets : Nat) (g_rules g_history g_setsBefore g_table g_failure g_input g_parser g_examples g_repairer g_sets_first g_sets_follow g_sets_begins : Value) (c_sets_nullable : Int32) (p1 : Int32) : ctI0 l D tc yX11_nullable (Cond.code yX11_nullable cX11_nullable 2 (some .int) :: jtb) ({ frames := 1, cells := 0, slots := 0, locals := 21 } : Room) [.ref h_, .int p1] [(h_, .inr (11, [g_rules, g_history, .ref h_sets, g_setsBefore, g_table, g_failure, g_input, g_parser, g_examples, g_repairer])), (h_sets, .inr (7, [.int c_sets_nullable, g_sets_first, g_sets_follow, g_sets_begins]))] (fX11_nullable c_sets_nullable p1) := by
  refine ctI0_of (lv0 := [(0, .ref h_), (1, .int p1)]) (by decide +kernel) (Nat.le_of_ble_eq_true rfl) rfl (fun X C => ?_)
  unfold fX11_nullable
  refine j_iload C d11_nullable_0 1 rfl ?_
  refine j_callSI0 (As := [.int p1]) C d11_nullable_1 ms11_90 (kX11_isNonterminal _ _ tc p1) ⟨rfl, rfl, Nat.le_of_ble_eq_true rfl, Nat.le_of_ble_eq_true rfl⟩ rfl [] rfl rfl rfl (Nat.le_of_ble_eq_true rfl) (fun x1 => ?_)
  refine j_join 22 (fun v2 => [(h_, .inr (11, [g_rules, g_history, .ref h_sets, g_setsBefore, g_table, g_failure, g_input, g_parser, g_examples, g_repairer])), (h_sets, .inr (7, [.int c_sets_nullable, g_sets_first, g_sets_follow, g_sets_begins]))]) (fun v2 => []) (fun v2 => [.int v2]) (fun v2 => ?_) (fun k3 hk3 => ?_)
  · exact j_iret0 C d11_nullable_22
  · refine j_if_eq C d11_nullable_4 ?_ ?_
    · refine j_const C d11_nullable_21 ?_
      exact j_sub [] rfl (hk3 _)
    · refine j_aload C d11_nullable_7 0 rfl ?_
      refine j_get C d11_nullable_8 fl11_26 0 rfl rfl ?_
      refine j_get C d11_nullable_11 fl11_150 1 rfl rfl ?_
      refine j_iload C d11_nullable_14 1 rfl ?_
      refine j_callSI0 (As := [.int c_sets_nullable, .int p1]) C d11_nullable_15 ms11_153 (kX11_bit _ _ tc c_sets_nullable p1) ⟨rfl, rfl, Nat.le_of_ble_eq_true rfl, Nat.le_of_ble_eq_true rfl⟩ rfl [] rfl rfl rfl (Nat.le_of_ble_eq_true rfl) (fun x4 => ?_)
      refine j_goto C d11_nullable_18 ?_
      exact j_sub [] rfl (hk3 _)

theorem d11_firstSet_0 : jdi cX11_firstSet 0 1 1 := Or.inl ⟨1, by decide +kernel⟩
theorem d11_firstSet_1 : jd cX11_firstSet 1 (.invokestatic 90) 3 4 := by decide +kernel
theorem d11_firstSet_4 : jdb cX11_firstSet 4 (.ifCond .eq 15) 15 19 7 := by decide +kernel
theorem d11_firstSet_7 : jda cX11_firstSet 7 0 8 := Or.inl ⟨0, by decide +kernel⟩
theorem d11_firstSet_8 : jd cX11_firstSet 8 (.getfield 26) 3 11 := by decide +kernel
theorem d11_firstSet_11 : jd cX11_firstSet 11 (.getfield 156) 3 14 := by decide +kernel
theorem d11_firstSet_14 : jdi cX11_firstSet 14 1 15 := Or.inl ⟨1, by decide +kernel⟩
theorem d11_firstSet_15 : jd cX11_firstSet 15 (.iaload) 1 16 := by decide +kernel
theorem d11_firstSet_16 : jdb cX11_firstSet 16 (.goto 4) 4 20 19 := by decide +kernel
theorem d11_firstSet_19 : jdk cX11_firstSet 19 (-1) 20 := Or.inl ⟨(-1), by decide +kernel⟩
theorem d11_firstSet_20 : decode cX11_firstSet 20 = .ok (.ireturn, 1) := by decide +kernel
set_option maxHeartbeats 4000000 in
set_option maxRecDepth 100000 in
theorem kX11_firstSet (l : Launch) (D : va_G) (tc : jTC) (h_ h_sets h_sets_first : Nat) (g_rules g_history g_setsBefore g_table g_failure g_input g_parser g_examples g_repairer g_sets_nullable g_sets_follow g_sets_begins : Value) (c_sets_first : (Nat → Int32)) (p1 : Int32) : ctI0 l D tc yX11_firstSet (Cond.code yX11_firstSet cX11_firstSet 2 (some .int) :: jtb) ({ frames := 1, cells := 0, slots := 0, locals := 20 } : Room) [.ref h_, .int p1] [(h_, .inr (11, [g_rules, g_history, .ref h_sets, g_setsBefore, g_table, g_failure, g_input, g_parser, g_examples, g_repairer])), (h_sets, .inr (7, [g_sets_nullable, .ref h_sets_first, g_sets_follow, g_sets_begins])), (h_sets_first, .inl (tc.1, 8, .inl c_sets_first))] (fX11_firstSet c_sets_first p1) := by
  refine ctI0_of (lv0 := [(0, .ref h_), (1, .int p1)]) (by decide +kernel) (Nat.le_of_ble_eq_true rfl) rfl (fun X C => ?_)
  unfold fX11_firstSet
  refine j_iload C d11_firstSet_0 1 rfl ?_
  refine j_callSI0 (As := [.int p1]) C d11_firstSet_1 ms11_90 (kX11_isNonterminal _ _ tc p1) ⟨rfl, rfl, Nat.le_of_ble_eq_true rfl, Nat.le_of_ble_eq_true rfl⟩ rfl [] rfl rfl rfl (Nat.le_of_ble_eq_true rfl) (fun x1 => ?_)
  refine j_join 20 (fun v2 => [(h_, .inr (11, [g_rules, g_history, .ref h_sets, g_setsBefore, g_table, g_failure, g_input, g_parser, g_examples, g_repairer])), (h_sets, .inr (7, [g_sets_nullable, .ref h_sets_first, g_sets_follow, g_sets_begins])), (h_sets_first, .inl (tc.1, 8, .inl c_sets_first))]) (fun v2 => []) (fun v2 => [.int v2]) (fun v2 => ?_) (fun k3 hk3 => ?_)
  · exact j_iret0 C d11_firstSet_20
  · refine j_if_eq C d11_firstSet_4 ?_ ?_
    · refine j_const C d11_firstSet_19 ?_
      exact j_sub [] rfl (hk3 _)
    · refine j_aload C d11_firstSet_7 0 rfl ?_
      refine j_get C d11_firstSet_8 fl11_26 0 rfl rfl ?_
      refine j_get C d11_firstSet_11 fl11_156 1 rfl rfl ?_
      refine j_iload C d11_firstSet_14 1 rfl ?_
      refine j_iald C d11_firstSet_15 2 rfl (fun x4 => ?_)
      refine j_goto C d11_firstSet_16 ?_
      exact j_sub [] rfl (hk3 _)

theorem d11_followSet_0 : jdi cX11_followSet 0 1 1 := Or.inl ⟨1, by decide +kernel⟩
theorem d11_followSet_1 : jd cX11_followSet 1 (.invokestatic 90) 3 4 := by decide +kernel
theorem d11_followSet_4 : jdb cX11_followSet 4 (.ifCond .eq 15) 15 19 7 := by decide +kernel
theorem d11_followSet_7 : jda cX11_followSet 7 0 8 := Or.inl ⟨0, by decide +kernel⟩
theorem d11_followSet_8 : jd cX11_followSet 8 (.getfield 26) 3 11 := by decide +kernel
theorem d11_followSet_11 : jd cX11_followSet 11 (.getfield 159) 3 14 := by decide +kernel
theorem d11_followSet_14 : jdi cX11_followSet 14 1 15 := Or.inl ⟨1, by decide +kernel⟩
theorem d11_followSet_15 : jd cX11_followSet 15 (.iaload) 1 16 := by decide +kernel
theorem d11_followSet_16 : jdb cX11_followSet 16 (.goto 4) 4 20 19 := by decide +kernel
theorem d11_followSet_19 : jdk cX11_followSet 19 (-1) 20 := Or.inl ⟨(-1), by decide +kernel⟩
theorem d11_followSet_20 : decode cX11_followSet 20 = .ok (.ireturn, 1) := by decide +kernel
set_option maxHeartbeats 4000000 in
set_option maxRecDepth 100000 in
theorem kX11_followSet (l : Launch) (D : va_G) (tc : jTC) (h_ h_sets h_sets_follow : Nat) (g_rules g_history g_setsBefore g_table g_failure g_input g_parser g_examples g_repairer g_sets_nullable g_sets_first g_sets_begins : Value) (c_sets_follow : (Nat → Int32)) (p1 : Int32) : ctI0 l D tc yX11_followSet (Cond.code yX11_followSet cX11_followSet 2 (some .int) :: jtb) ({ frames := 1, cells := 0, slots := 0, locals := 20 } : Room) [.ref h_, .int p1] [(h_, .inr (11, [g_rules, g_history, .ref h_sets, g_setsBefore, g_table, g_failure, g_input, g_parser, g_examples, g_repairer])), (h_sets, .inr (7, [g_sets_nullable, g_sets_first, .ref h_sets_follow, g_sets_begins])), (h_sets_follow, .inl (tc.1, 8, .inl c_sets_follow))] (fX11_followSet c_sets_follow p1) := by
  refine ctI0_of (lv0 := [(0, .ref h_), (1, .int p1)]) (by decide +kernel) (Nat.le_of_ble_eq_true rfl) rfl (fun X C => ?_)
  unfold fX11_followSet
  refine j_iload C d11_followSet_0 1 rfl ?_
  refine j_callSI0 (As := [.int p1]) C d11_followSet_1 ms11_90 (kX11_isNonterminal _ _ tc p1) ⟨rfl, rfl, Nat.le_of_ble_eq_true rfl, Nat.le_of_ble_eq_true rfl⟩ rfl [] rfl rfl rfl (Nat.le_of_ble_eq_true rfl) (fun x1 => ?_)
  refine j_join 20 (fun v2 => [(h_, .inr (11, [g_rules, g_history, .ref h_sets, g_setsBefore, g_table, g_failure, g_input, g_parser, g_examples, g_repairer])), (h_sets, .inr (7, [g_sets_nullable, g_sets_first, .ref h_sets_follow, g_sets_begins])), (h_sets_follow, .inl (tc.1, 8, .inl c_sets_follow))]) (fun v2 => []) (fun v2 => [.int v2]) (fun v2 => ?_) (fun k3 hk3 => ?_)
  · exact j_iret0 C d11_followSet_20
  · refine j_if_eq C d11_followSet_4 ?_ ?_
    · refine j_const C d11_followSet_19 ?_
      exact j_sub [] rfl (hk3 _)
    · refine j_aload C d11_followSet_7 0 rfl ?_
      refine j_get C d11_followSet_8 fl11_26 0 rfl rfl ?_
      refine j_get C d11_followSet_11 fl11_159 1 rfl rfl ?_
      refine j_iload C d11_followSet_14 1 rfl ?_
      refine j_iald C d11_followSet_15 2 rfl (fun x4 => ?_)
      refine j_goto C d11_followSet_16 ?_
      exact j_sub [] rfl (hk3 _)

theorem d11_selectSet_0 : jda cX11_selectSet 0 0 1 := Or.inl ⟨0, by decide +kernel⟩
theorem d11_selectSet_1 : jd cX11_selectSet 1 (.getfield 12) 3 4 := by decide +kernel
theorem d11_selectSet_4 : jdi cX11_selectSet 4 1 5 := Or.inl ⟨1, by decide +kernel⟩
theorem d11_selectSet_5 : jd cX11_selectSet 5 (.invokevirtual 127) 3 8 := by decide +kernel
theorem d11_selectSet_8 : jdb cX11_selectSet 8 (.ifCond .eq 15) 15 23 11 := by decide +kernel
theorem d11_selectSet_11 : jda cX11_selectSet 11 0 12 := Or.inl ⟨0, by decide +kernel⟩
theorem d11_selectSet_12 : jd cX11_selectSet 12 (.getfield 38) 3 15 := by decide +kernel
theorem d11_selectSet_15 : jd cX11_selectSet 15 (.getfield 162) 3 18 := by decide +kernel
theorem d11_selectSet_18 : jdi cX11_selectSet 18 1 19 := Or.inl ⟨1, by decide +kernel⟩
theorem d11_selectSet_19 : jd cX11_selectSet 19 (.iaload) 1 20 := by decide +kernel
theorem d11_selectSet_20 : jdb cX11_selectSet 20 (.goto 4) 4 24 23 := by decide +kernel
theorem d11_selectSet_23 : jdk cX11_selectSet 23 (-1) 24 := Or.inl ⟨(-1), by decide +kernel⟩
theorem d11_selectSet_24 : decode cX11_selectSet 24 = .ok (.ireturn, 1) := by decide +kernel
set_option maxHeartbeats 4000000 in
set_option maxRecDepth 100000 in
theorem kX11_selectSet (l : Launch) (D : va_G) (tc : jTC) (h_ h_rules h_table h_table_select : Nat) (g_history g_sets g_setsBefore g_failure g_input g_parser g_examples g_repairer g_rules_codes g_table_sets g_table_possible g_table_lowest g_table_conflicts : Value) (c_rules_count : Int32) (c_table_select : (Nat → Int32)) (p1 : Int32) : ctI0 l D tc yX11_selectSet (Cond.code yX11_selectSet cX11_selectSet 2 (some .int) :: jtb) ({ frames := 1, cells := 0, slots := 0, locals := 21 } : Room) [.ref h_, .int p1] [(h_, .inr (11, [.ref h_rules, g_history, g_sets, g_setsBefore, .ref h_table, g_failure, g_input, g_parser, g_examples, g_repairer])), (h_rules, .inr (6, [g_rules_codes, .int c_rules_count])), (h_table, .inr (8, [.ref h_rules, g_table_sets, .ref h_table_select, g_table_possible, g_table_lowest, g_table_conflicts])), (h_table_select, .inl (tc.1, 24, .inl c_table_select))] (fX11_selectSet c_rules_count c_table_select p1) := by
  refine ctI0_of (lv0 := [(0, .ref h_), (1, .int p1)]) (by decide +kernel) (Nat.le_of_ble_eq_true rfl) rfl (fun X C => ?_)
  unfold fX11_selectSet
  refine j_aload C d11_selectSet_0 0 rfl ?_
  refine j_get C d11_selectSet_1 fl11_12 0 rfl rfl ?_
  refine j_iload C d11_selectSet_4 1 rfl ?_
  refine j_callVI0 (As := [.int p1]) C d11_selectSet_5 mv11_127 (kX6_has _ _ tc h_rules g_rules_codes c_rules_count p1) ⟨rfl, rfl, Nat.le_of_ble_eq_true rfl, Nat.le_of_ble_eq_true rfl⟩ rfl 1 rfl [1] rfl rfl rfl (Nat.le_of_ble_eq_true rfl) (fun x1 => ?_)
  refine j_join 24 (fun v2 => [(h_, .inr (11, [.ref h_rules, g_history, g_sets, g_setsBefore, .ref h_table, g_failure, g_input, g_parser, g_examples, g_repairer])), (h_rules, .inr (6, [g_rules_codes, .int c_rules_count])), (h_table, .inr (8, [.ref h_rules, g_table_sets, .ref h_table_select, g_table_possible, g_table_lowest, g_table_conflicts])), (h_table_select, .inl (tc.1, 24, .inl c_table_select))]) (fun v2 => []) (fun v2 => [.int v2]) (fun v2 => ?_) (fun k3 hk3 => ?_)
  · exact j_iret0 C d11_selectSet_24
  · refine j_if_eq C d11_selectSet_8 ?_ ?_
    · refine j_const C d11_selectSet_23 ?_
      exact j_sub [] rfl (hk3 _)
    · refine j_aload C d11_selectSet_11 0 rfl ?_
      refine j_get C d11_selectSet_12 fl11_38 0 rfl rfl ?_
      refine j_get C d11_selectSet_15 fl11_162 2 rfl rfl ?_
      refine j_iload C d11_selectSet_18 1 rfl ?_
      refine j_iald C d11_selectSet_19 3 rfl (fun x4 => ?_)
      refine j_goto C d11_selectSet_20 ?_
      exact j_sub [] rfl (hk3 _)

theorem d11_changedNonterminals_0 : jda cX11_changedNonterminals 0 0 1 := Or.inl ⟨0, by decide +kernel⟩
theorem d11_changedNonterminals_1 : jd cX11_changedNonterminals 1 (.getfield 26) 3 4 := by decide +kernel
theorem d11_changedNonterminals_4 : jda cX11_changedNonterminals 4 0 5 := Or.inl ⟨0, by decide +kernel⟩
theorem d11_changedNonterminals_5 : jd cX11_changedNonterminals 5 (.getfield 30) 3 8 := by decide +kernel
theorem d11_changedNonterminals_8 : jd cX11_changedNonterminals 8 (.invokevirtual 165) 3 11 := by decide +kernel
theorem d11_changedNonterminals_11 : decode cX11_changedNonterminals 11 = .ok (.ireturn, 1) := by decide +kernel
set_option maxHeartbeats 4000000 in
set_option maxRecDepth 100000 in
theorem kX11_changedNonterminals (l : Launch) (D : va_G) (tc : jTC) (N : Nat) (h_ h_sets h_sets_first h_sets_follow h_setsBefore h_setsBefore_first h_setsBefore_follow : Nat) (g_rules g_history g_table g_failure g_input g_parser g_examples g_repairer g_sets_begins g_setsBefore_begins : Value) (c_sets_nullable : Int32) (c_sets_first : (Nat → Int32)) (c_sets_follow : (Nat → Int32)) (c_setsBefore_nullable : Int32) (c_setsBefore_first : (Nat → Int32)) (c_setsBefore_follow : (Nat → Int32)) : ctI0 l D tc yX11_changedNonterminals (Cond.code yX11_changedNonterminals cX11_changedNonterminals 1 (some .int) :: jtb) ({ frames := 2, cells := 0, slots := 0, locals := 45 } : Room) [.ref h_] [(h_, .inr (11, [g_rules, g_history, .ref h_sets, .ref h_setsBefore, g_table, g_failure, g_input, g_parser, g_examples, g_repairer])), (h_sets, .inr (7, [.int c_sets_nullable, .ref h_sets_first, .ref h_sets_follow, g_sets_begins])), (h_sets_first, .inl (tc.1, 8, .inl c_sets_first)), (h_sets_follow, .inl (tc.1, 8, .inl c_sets_follow)), (h_setsBefore, .inr (7, [.int c_setsBefore_nullable, .ref h_setsBefore_first, .ref h_setsBefore_follow, g_setsBefore_begins])), (h_setsBefore_first, .inl (tc.1, 8, .inl c_setsBefore_first)), (h_setsBefore_follow, .inl (tc.1, 8, .inl c_setsBefore_follow))] (fX11_changedNonterminals N c_sets_nullable c_sets_first c_sets_follow c_setsBefore_nullable c_setsBefore_first c_setsBefore_follow) := by
  refine ctI0_of (lv0 := [(0, .ref h_)]) (by decide +kernel) (Nat.le_of_ble_eq_true rfl) rfl (fun X C => ?_)
  unfold fX11_changedNonterminals
  refine j_aload C d11_changedNonterminals_0 0 rfl ?_
  refine j_get C d11_changedNonterminals_1 fl11_26 0 rfl rfl ?_
  refine j_aload C d11_changedNonterminals_4 0 rfl ?_
  refine j_get C d11_changedNonterminals_5 fl11_30 0 rfl rfl ?_
  refine j_callVI0 (As := [.ref h_setsBefore]) C d11_changedNonterminals_8 mv11_165 (kX7_differences _ _ tc N h_sets h_sets_first h_sets_follow h_setsBefore h_setsBefore_first h_setsBefore_follow g_sets_begins g_setsBefore_begins c_sets_nullable c_sets_first c_sets_follow c_setsBefore_nullable c_setsBefore_first c_setsBefore_follow) ⟨rfl, rfl, Nat.le_of_ble_eq_true rfl, Nat.le_of_ble_eq_true rfl⟩ rfl 1 rfl [1, 2, 3, 4, 5, 6] rfl rfl rfl (Nat.le_of_ble_eq_true rfl) (fun x1 => ?_)
  exact j_iret0 C d11_changedNonterminals_11

theorem d11_productive_0 : jdi cX11_productive 0 1 1 := Or.inl ⟨1, by decide +kernel⟩
theorem d11_productive_1 : jd cX11_productive 1 (.invokestatic 90) 3 4 := by decide +kernel
theorem d11_productive_4 : jdb cX11_productive 4 (.ifCond .eq 21) 21 25 7 := by decide +kernel
theorem d11_productive_7 : jda cX11_productive 7 0 8 := Or.inl ⟨0, by decide +kernel⟩
theorem d11_productive_8 : jd cX11_productive 8 (.getfield 26) 3 11 := by decide +kernel
theorem d11_productive_11 : jda cX11_productive 11 0 12 := Or.inl ⟨0, by decide +kernel⟩
theorem d11_productive_12 : jd cX11_productive 12 (.getfield 12) 3 15 := by decide +kernel
theorem d11_productive_15 : jd cX11_productive 15 (.invokevirtual 169) 3 18 := by decide +kernel
theorem d11_productive_18 : jdi cX11_productive 18 1 19 := Or.inl ⟨1, by decide +kernel⟩
theorem d11_productive_19 : jd cX11_productive 19 (.invokestatic 153) 3 22 := by decide +kernel
theorem d11_productive_22 : jdb cX11_productive 22 (.goto 4) 4 26 25 := by decide +kernel
theorem d11_productive_25 : jdk cX11_productive 25 (-1) 26 := Or.inl ⟨(-1), by decide +kernel⟩
theorem d11_productive_26 : decode cX11_productive 26 = .ok (.ireturn, 1) := by decide +kernel
set_option maxHeartbeats 4000000 in
set_option maxRecDepth 100000 in
theorem kX11_productive (l : Launch) (D : va_G) (tc : jTC) (N : Nat) (h_ h_rules h_rules_codes h_sets : Nat) (g_history g_setsBefore g_table g_failure g_input g_parser g_examples g_repairer g_sets_nullable g_sets_first g_sets_follow g_sets_begins : Value) (c_rules_codes : (Nat → Int32)) (c_rules_count : Int32) (p1 : Int32) : ctI0 l D tc yX11_productive (Cond.code yX11_productive cX11_productive 2 (some .int) :: jtb) ({ frames := 3, cells := 0, slots := 0, locals := 71 } : Room) [.ref h_, .int p1] [(h_, .inr (11, [.ref h_rules, g_history, .ref h_sets, g_setsBefore, g_table, g_failure, g_input, g_parser, g_examples, g_repairer])), (h_rules, .inr (6, [.ref h_rules_codes, .int c_rules_count])), (h_rules_codes, .inl (tc.1, 24, .inl c_rules_codes)), (h_sets, .inr (7, [g_sets_nullable, g_sets_first, g_sets_follow, g_sets_begins]))] (fX11_productive N c_rules_codes c_rules_count p1) := by
  refine ctI0_of (lv0 := [(0, .ref h_), (1, .int p1)]) (by decide +kernel) (Nat.le_of_ble_eq_true rfl) rfl (fun X C => ?_)
  unfold fX11_productive
  refine j_iload C d11_productive_0 1 rfl ?_
  refine j_callSI0 (As := [.int p1]) C d11_productive_1 ms11_90 (kX11_isNonterminal _ _ tc p1) ⟨rfl, rfl, Nat.le_of_ble_eq_true rfl, Nat.le_of_ble_eq_true rfl⟩ rfl [] rfl rfl rfl (Nat.le_of_ble_eq_true rfl) (fun x1 => ?_)
  refine j_join 26 (fun v2 => [(h_, .inr (11, [.ref h_rules, g_history, .ref h_sets, g_setsBefore, g_table, g_failure, g_input, g_parser, g_examples, g_repairer])), (h_rules, .inr (6, [.ref h_rules_codes, .int c_rules_count])), (h_rules_codes, .inl (tc.1, 24, .inl c_rules_codes)), (h_sets, .inr (7, [g_sets_nullable, g_sets_first, g_sets_follow, g_sets_begins]))]) (fun v2 => []) (fun v2 => [.int v2]) (fun v2 => ?_) (fun k3 hk3 => ?_)
  · exact j_iret0 C d11_productive_26
  · refine j_if_eq C d11_productive_4 ?_ ?_
    · refine j_const C d11_productive_25 ?_
      exact j_sub [] rfl (hk3 _)
    · refine j_aload C d11_productive_7 0 rfl ?_
      refine j_get C d11_productive_8 fl11_26 0 rfl rfl ?_
      refine j_aload C d11_productive_11 0 rfl ?_
      refine j_get C d11_productive_12 fl11_12 0 rfl rfl ?_
      refine j_callVI0 (As := [.ref h_rules]) C d11_productive_15 mv11_169 (kX7_productiveOnes _ _ tc N h_sets h_rules h_rules_codes g_sets_nullable g_sets_first g_sets_follow g_sets_begins c_rules_codes c_rules_count) ⟨rfl, rfl, Nat.le_of_ble_eq_true rfl, Nat.le_of_ble_eq_true rfl⟩ rfl 3 rfl [3, 1, 2] rfl rfl rfl (Nat.le_of_ble_eq_true rfl) (fun x4 => ?_)
      refine j_iload C d11_productive_18 1 rfl ?_
      refine j_callSI0 (As := [.int x4, .int p1]) C d11_productive_19 ms11_153 (kX11_bit _ _ tc x4 p1) ⟨rfl, rfl, Nat.le_of_ble_eq_true rfl, Nat.le_of_ble_eq_true rfl⟩ rfl [] rfl rfl rfl (Nat.le_of_ble_eq_true rfl) (fun x5 => ?_)
      refine j_goto C d11_productive_22 ?_
      exact j_sub [] rfl (hk3 _)

theorem d11_reachable_0 : jdi cX11_reachable 0 1 1 := Or.inl ⟨1, by decide +kernel⟩
theorem d11_reachable_1 : jd cX11_reachable 1 (.invokestatic 90) 3 4 := by decide +kernel
theorem d11_reachable_4 : jdb cX11_reachable 4 (.ifCond .eq 21) 21 25 7 := by decide +kernel
theorem d11_reachable_7 : jda cX11_reachable 7 0 8 := Or.inl ⟨0, by decide +kernel⟩
theorem d11_reachable_8 : jd cX11_reachable 8 (.getfield 26) 3 11 := by decide +kernel
theorem d11_reachable_11 : jda cX11_reachable 11 0 12 := Or.inl ⟨0, by decide +kernel⟩
theorem d11_reachable_12 : jd cX11_reachable 12 (.getfield 12) 3 15 := by decide +kernel
theorem d11_reachable_15 : jd cX11_reachable 15 (.invokevirtual 173) 3 18 := by decide +kernel
theorem d11_reachable_18 : jdi cX11_reachable 18 1 19 := Or.inl ⟨1, by decide +kernel⟩
theorem d11_reachable_19 : jd cX11_reachable 19 (.invokestatic 153) 3 22 := by decide +kernel
theorem d11_reachable_22 : jdb cX11_reachable 22 (.goto 4) 4 26 25 := by decide +kernel
theorem d11_reachable_25 : jdk cX11_reachable 25 (-1) 26 := Or.inl ⟨(-1), by decide +kernel⟩
theorem d11_reachable_26 : decode cX11_reachable 26 = .ok (.ireturn, 1) := by decide +kernel
set_option maxHeartbeats 4000000 in
set_option maxRecDepth 100000 in
theorem kX11_reachable (l : Launch) (D : va_G) (tc : jTC) (N : Nat) (h_ h_rules h_rules_codes h_sets : Nat) (g_history g_setsBefore g_table g_failure g_input g_parser g_examples g_repairer g_sets_nullable g_sets_first g_sets_follow g_sets_begins : Value) (c_rules_codes : (Nat → Int32)) (c_rules_count : Int32) (p1 : Int32) : ctI0 l D tc yX11_reachable (Cond.code yX11_reachable cX11_reachable 2 (some .int) :: jtb) ({ frames := 3, cells := 0, slots := 0, locals := 71 } : Room) [.ref h_, .int p1] [(h_, .inr (11, [.ref h_rules, g_history, .ref h_sets, g_setsBefore, g_table, g_failure, g_input, g_parser, g_examples, g_repairer])), (h_rules, .inr (6, [.ref h_rules_codes, .int c_rules_count])), (h_rules_codes, .inl (tc.1, 24, .inl c_rules_codes)), (h_sets, .inr (7, [g_sets_nullable, g_sets_first, g_sets_follow, g_sets_begins]))] (fX11_reachable N c_rules_codes c_rules_count p1) := by
  refine ctI0_of (lv0 := [(0, .ref h_), (1, .int p1)]) (by decide +kernel) (Nat.le_of_ble_eq_true rfl) rfl (fun X C => ?_)
  unfold fX11_reachable
  refine j_iload C d11_reachable_0 1 rfl ?_
  refine j_callSI0 (As := [.int p1]) C d11_reachable_1 ms11_90 (kX11_isNonterminal _ _ tc p1) ⟨rfl, rfl, Nat.le_of_ble_eq_true rfl, Nat.le_of_ble_eq_true rfl⟩ rfl [] rfl rfl rfl (Nat.le_of_ble_eq_true rfl) (fun x1 => ?_)
  refine j_join 26 (fun v2 => [(h_, .inr (11, [.ref h_rules, g_history, .ref h_sets, g_setsBefore, g_table, g_failure, g_input, g_parser, g_examples, g_repairer])), (h_rules, .inr (6, [.ref h_rules_codes, .int c_rules_count])), (h_rules_codes, .inl (tc.1, 24, .inl c_rules_codes)), (h_sets, .inr (7, [g_sets_nullable, g_sets_first, g_sets_follow, g_sets_begins]))]) (fun v2 => []) (fun v2 => [.int v2]) (fun v2 => ?_) (fun k3 hk3 => ?_)
  · exact j_iret0 C d11_reachable_26
  · refine j_if_eq C d11_reachable_4 ?_ ?_
    · refine j_const C d11_reachable_25 ?_
      exact j_sub [] rfl (hk3 _)
    · refine j_aload C d11_reachable_7 0 rfl ?_
      refine j_get C d11_reachable_8 fl11_26 0 rfl rfl ?_
      refine j_aload C d11_reachable_11 0 rfl ?_
      refine j_get C d11_reachable_12 fl11_12 0 rfl rfl ?_
      refine j_callVI0 (As := [.ref h_rules]) C d11_reachable_15 mv11_173 (kX7_reachableOnes _ _ tc N h_sets h_rules h_rules_codes g_sets_nullable g_sets_first g_sets_follow g_sets_begins c_rules_codes c_rules_count) ⟨rfl, rfl, Nat.le_of_ble_eq_true rfl, Nat.le_of_ble_eq_true rfl⟩ rfl 3 rfl [3, 1, 2] rfl rfl rfl (Nat.le_of_ble_eq_true rfl) (fun x4 => ?_)
      refine j_iload C d11_reachable_18 1 rfl ?_
      refine j_callSI0 (As := [.int x4, .int p1]) C d11_reachable_19 ms11_153 (kX11_bit _ _ tc x4 p1) ⟨rfl, rfl, Nat.le_of_ble_eq_true rfl, Nat.le_of_ble_eq_true rfl⟩ rfl [] rfl rfl rfl (Nat.le_of_ble_eq_true rfl) (fun x5 => ?_)
      refine j_goto C d11_reachable_22 ?_
      exact j_sub [] rfl (hk3 _)

theorem d11_leftRecursive_0 : jdi cX11_leftRecursive 0 1 1 := Or.inl ⟨1, by decide +kernel⟩
theorem d11_leftRecursive_1 : jd cX11_leftRecursive 1 (.invokestatic 90) 3 4 := by decide +kernel
theorem d11_leftRecursive_4 : jdb cX11_leftRecursive 4 (.ifCond .eq 21) 21 25 7 := by decide +kernel
theorem d11_leftRecursive_7 : jda cX11_leftRecursive 7 0 8 := Or.inl ⟨0, by decide +kernel⟩
theorem d11_leftRecursive_8 : jd cX11_leftRecursive 8 (.getfield 26) 3 11 := by decide +kernel
theorem d11_leftRecursive_11 : jda cX11_leftRecursive 11 0 12 := Or.inl ⟨0, by decide +kernel⟩
theorem d11_leftRecursive_12 : jd cX11_leftRecursive 12 (.getfield 12) 3 15 := by decide +kernel
theorem d11_leftRecursive_15 : jd cX11_leftRecursive 15 (.invokevirtual 176) 3 18 := by decide +kernel
theorem d11_leftRecursive_18 : jdi cX11_leftRecursive 18 1 19 := Or.inl ⟨1, by decide +kernel⟩
theorem d11_leftRecursive_19 : jd cX11_leftRecursive 19 (.invokestatic 153) 3 22 := by decide +kernel
theorem d11_leftRecursive_22 : jdb cX11_leftRecursive 22 (.goto 4) 4 26 25 := by decide +kernel
theorem d11_leftRecursive_25 : jdk cX11_leftRecursive 25 (-1) 26 := Or.inl ⟨(-1), by decide +kernel⟩
theorem d11_leftRecursive_26 : decode cX11_leftRecursive 26 = .ok (.ireturn, 1) := by decide +kernel
set_option maxHeartbeats 4000000 in
set_option maxRecDepth 100000 in
theorem kX11_leftRecursive (l : Launch) (D : va_G) (tc : jTC) (N : Nat) (h_ h_rules h_rules_codes h_sets h_sets_begins : Nat) (g_history g_setsBefore g_table g_failure g_input g_parser g_examples g_repairer g_sets_first g_sets_follow : Value) (c_rules_codes : (Nat → Int32)) (c_rules_count : Int32) (c_sets_nullable : Int32) (c_sets_begins : (Nat → Int32)) (p1 : Int32) : ctI l D tc yX11_leftRecursive (Cond.code yX11_leftRecursive cX11_leftRecursive 2 (some .int) :: jtb) ({ frames := 4, cells := 0, slots := 0, locals := 89 } : Room) [.ref h_, .int p1] [(h_, .inr (11, [.ref h_rules, g_history, .ref h_sets, g_setsBefore, g_table, g_failure, g_input, g_parser, g_examples, g_repairer])), (h_rules, .inr (6, [.ref h_rules_codes, .int c_rules_count])), (h_rules_codes, .inl (tc.1, 24, .inl c_rules_codes)), (h_sets, .inr (7, [.int c_sets_nullable, g_sets_first, g_sets_follow, .ref h_sets_begins])), (h_sets_begins, .inl (tc.1, 8, .inl c_sets_begins))] (fX11_leftRecursive N c_rules_codes c_rules_count c_sets_nullable c_sets_begins p1) (fun (u : (Nat → Int32)) => [(h_, .inr (11, [.ref h_rules, g_history, .ref h_sets, g_setsBefore, g_table, g_failure, g_input, g_parser, g_examples, g_repairer])), (h_rules, .inr (6, [.ref h_rules_codes, .int c_rules_count])), (h_rules_codes, .inl (tc.1, 24, .inl c_rules_codes)), (h_sets, .inr (7, [.int c_sets_nullable, g_sets_first, g_sets_follow, .ref h_sets_begins])), (h_sets_begins, .inl (tc.1, 8, .inl u))]) := by
  refine ctI_of (lv0 := [(0, .ref h_), (1, .int p1)]) (by decide +kernel) (Nat.le_of_ble_eq_true rfl) rfl (fun X C => ?_)
  unfold fX11_leftRecursive
  refine j_iload C d11_leftRecursive_0 1 rfl ?_
  refine j_callSI0 (As := [.int p1]) C d11_leftRecursive_1 ms11_90 (kX11_isNonterminal _ _ tc p1) ⟨rfl, rfl, Nat.le_of_ble_eq_true rfl, Nat.le_of_ble_eq_true rfl⟩ rfl [] rfl rfl rfl (Nat.le_of_ble_eq_true rfl) (fun x1 => ?_)
  refine j_join 26 (fun v2 => [(h_, .inr (11, [.ref h_rules, g_history, .ref h_sets, g_setsBefore, g_table, g_failure, g_input, g_parser, g_examples, g_repairer])), (h_rules, .inr (6, [.ref h_rules_codes, .int c_rules_count])), (h_rules_codes, .inl (tc.1, 24, .inl c_rules_codes)), (h_sets, .inr (7, [.int c_sets_nullable, g_sets_first, g_sets_follow, .ref h_sets_begins])), (h_sets_begins, .inl (tc.1, 8, .inl v2.2))]) (fun v2 => []) (fun v2 => [.int v2.1]) (fun v2 => ?_) (fun k3 hk3 => ?_)
  · exact j_iret C d11_leftRecursive_26 rfl
  · refine j_if_eq C d11_leftRecursive_4 ?_ ?_
    · refine j_const C d11_leftRecursive_25 ?_
      exact j_sub [] rfl (hk3 _)
    · refine j_aload C d11_leftRecursive_7 0 rfl ?_
      refine j_get C d11_leftRecursive_8 fl11_26 0 rfl rfl ?_
      refine j_aload C d11_leftRecursive_11 0 rfl ?_
      refine j_get C d11_leftRecursive_12 fl11_12 0 rfl rfl ?_
      refine j_callVI (As := [.ref h_rules]) C d11_leftRecursive_15 mv11_176 (kX7_leftRecursiveOnes _ _ tc N h_sets h_sets_begins h_rules h_rules_codes g_sets_first g_sets_follow c_sets_nullable c_sets_begins c_rules_codes c_rules_count) ⟨rfl, rfl, Nat.le_of_ble_eq_true rfl, Nat.le_of_ble_eq_true rfl⟩ rfl 3 rfl [3, 4, 1, 2] rfl rfl rfl (Nat.le_of_ble_eq_true rfl) (fun u => [(h_, .inr (11, [.ref h_rules, g_history, .ref h_sets, g_setsBefore, g_table, g_failure, g_input, g_parser, g_examples, g_repairer])), (h_rules, .inr (6, [.ref h_rules_codes, .int c_rules_count])), (h_rules_codes, .inl (tc.1, 24, .inl c_rules_codes)), (h_sets, .inr (7, [.int c_sets_nullable, g_sets_first, g_sets_follow, .ref h_sets_begins])), (h_sets_begins, .inl (tc.1, 8, .inl u))]) (fun _ => rfl) (fun _ => rfl) (fun _ => rfl) (fun o4 => ?_)
      refine j_iload C d11_leftRecursive_18 1 rfl ?_
      refine j_callSI0 (As := [.int o4.1, .int p1]) C d11_leftRecursive_19 ms11_153 (kX11_bit _ _ tc o4.1 p1) ⟨rfl, rfl, Nat.le_of_ble_eq_true rfl, Nat.le_of_ble_eq_true rfl⟩ rfl [] rfl rfl rfl (Nat.le_of_ble_eq_true rfl) (fun x5 => ?_)
      refine j_goto C d11_leftRecursive_22 ?_
      exact j_sub [] rfl (hk3 _)

theorem d11_shortestLength_0 : jdi cX11_shortestLength 0 1 1 := Or.inl ⟨1, by decide +kernel⟩
theorem d11_shortestLength_1 : jd cX11_shortestLength 1 (.invokestatic 90) 3 4 := by decide +kernel
theorem d11_shortestLength_4 : jdb cX11_shortestLength 4 (.ifCond .eq 24) 24 28 7 := by decide +kernel
theorem d11_shortestLength_7 : jda cX11_shortestLength 7 0 8 := Or.inl ⟨0, by decide +kernel⟩
theorem d11_shortestLength_8 : jd cX11_shortestLength 8 (.getfield 70) 3 11 := by decide +kernel
theorem d11_shortestLength_11 : jd cX11_shortestLength 11 (.getfield 179) 3 14 := by decide +kernel
theorem d11_shortestLength_14 : jda cX11_shortestLength 14 0 15 := Or.inl ⟨0, by decide +kernel⟩
theorem d11_shortestLength_15 : jd cX11_shortestLength 15 (.getfield 70) 3 18 := by decide +kernel
theorem d11_shortestLength_18 : jdi cX11_shortestLength 18 1 19 := Or.inl ⟨1, by decide +kernel⟩
theorem d11_shortestLength_19 : jd cX11_shortestLength 19 (.invokevirtual 183) 3 22 := by decide +kernel
theorem d11_shortestLength_22 : jd cX11_shortestLength 22 (.invokevirtual 186) 3 25 := by decide +kernel
theorem d11_shortestLength_25 : jdb cX11_shortestLength 25 (.goto 4) 4 29 28 := by decide +kernel
theorem d11_shortestLength_28 : jdk cX11_shortestLength 28 (-1) 29 := Or.inl ⟨(-1), by decide +kernel⟩
theorem d11_shortestLength_29 : decode cX11_shortestLength 29 = .ok (.ireturn, 1) := by decide +kernel
set_option maxHeartbeats 4000000 in
set_option maxRecDepth 100000 in
theorem kX11_shortestLength (l : Launch) (D : va_G) (tc : jTC) (N : Nat) (h_ h_rules h_rules_codes h_examples h_examples_words h_examples_words_costs h_examples_words_highs h_examples_words_lows : Nat) (g_history g_sets g_setsBefore g_table g_failure g_input g_parser g_repairer g_examples_exampleKey : Value) (c_rules_codes : (Nat → Int32)) (c_rules_count : Int32) (c_examples_words_costs : (Nat → Int32)) (c_examples_words_highs : (Nat → Int64)) (c_examples_words_lows : (Nat → Int64)) (c_examples_plainKnown : Int32) (p1 : Int32) : ctI l D tc yX11_shortestLength (Cond.code yX11_shortestLength cX11_shortestLength 2 (some .int) :: jtb) ({ frames := 6, cells := 0, slots := 0, locals := 138 } : Room) [.ref h_, .int p1] [(h_, .inr (11, [.ref h_rules, g_history, g_sets, g_setsBefore, g_table, g_failure, g_input, g_parser, .ref h_examples, g_repairer])), (h_rules, .inr (6, [.ref h_rules_codes, .int c_rules_count])), (h_rules_codes, .inl (tc.1, 24, .inl c_rules_codes)), (h_examples, .inr (0, [.ref h_rules, .ref h_examples_words, .int c_examples_plainKnown, g_examples_exampleKey])), (h_examples_words, .inr (10, [.ref h_examples_words_costs, .ref h_examples_words_highs, .ref h_examples_words_lows])), (h_examples_words_costs, .inl (tc.1, 362, .inl c_examples_words_costs)), (h_examples_words_highs, .inl (tc.2.1, 362, .inr (.inl c_examples_words_highs))), (h_examples_words_lows, .inl (tc.2.1, 362, .inr (.inl c_examples_words_lows)))] (fX11_shortestLength N c_rules_codes c_rules_count c_examples_words_costs c_examples_words_highs c_examples_words_lows c_examples_plainKnown p1) (fun (u : (Nat → Int32) × (Nat → Int64) × (Nat → Int64) × Int32) => [(h_, .inr (11, [.ref h_rules, g_history, g_sets, g_setsBefore, g_table, g_failure, g_input, g_parser, .ref h_examples, g_repairer])), (h_rules, .inr (6, [.ref h_rules_codes, .int c_rules_count])), (h_rules_codes, .inl (tc.1, 24, .inl c_rules_codes)), (h_examples, .inr (0, [.ref h_rules, .ref h_examples_words, .int u.2.2.2, g_examples_exampleKey])), (h_examples_words, .inr (10, [.ref h_examples_words_costs, .ref h_examples_words_highs, .ref h_examples_words_lows])), (h_examples_words_costs, .inl (tc.1, 362, .inl u.1)), (h_examples_words_highs, .inl (tc.2.1, 362, .inr (.inl u.2.1))), (h_examples_words_lows, .inl (tc.2.1, 362, .inr (.inl u.2.2.1)))]) := by
  refine ctI_of (lv0 := [(0, .ref h_), (1, .int p1)]) (by decide +kernel) (Nat.le_of_ble_eq_true rfl) rfl (fun X C => ?_)
  unfold fX11_shortestLength
  refine j_iload C d11_shortestLength_0 1 rfl ?_
  refine j_callSI0 (As := [.int p1]) C d11_shortestLength_1 ms11_90 (kX11_isNonterminal _ _ tc p1) ⟨rfl, rfl, Nat.le_of_ble_eq_true rfl, Nat.le_of_ble_eq_true rfl⟩ rfl [] rfl rfl rfl (Nat.le_of_ble_eq_true rfl) (fun x1 => ?_)
  refine j_join 29 (fun v2 => [(h_, .inr (11, [.ref h_rules, g_history, g_sets, g_setsBefore, g_table, g_failure, g_input, g_parser, .ref h_examples, g_repairer])), (h_rules, .inr (6, [.ref h_rules_codes, .int c_rules_count])), (h_rules_codes, .inl (tc.1, 24, .inl c_rules_codes)), (h_examples, .inr (0, [.ref h_rules, .ref h_examples_words, .int v2.2.2.2.2, g_examples_exampleKey])), (h_examples_words, .inr (10, [.ref h_examples_words_costs, .ref h_examples_words_highs, .ref h_examples_words_lows])), (h_examples_words_costs, .inl (tc.1, 362, .inl v2.2.1)), (h_examples_words_highs, .inl (tc.2.1, 362, .inr (.inl v2.2.2.1))), (h_examples_words_lows, .inl (tc.2.1, 362, .inr (.inl v2.2.2.2.1)))]) (fun v2 => []) (fun v2 => [.int v2.1]) (fun v2 => ?_) (fun k3 hk3 => ?_)
  · exact j_iret C d11_shortestLength_29 rfl
  · refine j_if_eq C d11_shortestLength_4 ?_ ?_
    · refine j_const C d11_shortestLength_28 ?_
      exact j_sub [] rfl (hk3 _)
    · refine j_aload C d11_shortestLength_7 0 rfl ?_
      refine j_get C d11_shortestLength_8 fl11_70 0 rfl rfl ?_
      refine j_get C d11_shortestLength_11 fl11_179 3 rfl rfl ?_
      refine j_aload C d11_shortestLength_14 0 rfl ?_
      refine j_get C d11_shortestLength_15 fl11_70 0 rfl rfl ?_
      refine j_iload C d11_shortestLength_18 1 rfl ?_
      refine j_callVI (As := [.int p1]) C d11_shortestLength_19 mv11_183 (kX0_shortestWord _ _ tc N h_examples h_rules h_rules_codes h_examples_words h_examples_words_costs h_examples_words_highs h_examples_words_lows g_examples_exampleKey c_rules_codes c_rules_count c_examples_words_costs c_examples_words_highs c_examples_words_lows c_examples_plainKnown p1) ⟨rfl, rfl, Nat.le_of_ble_eq_true rfl, Nat.le_of_ble_eq_true rfl⟩ rfl 3 rfl [3, 1, 2, 4, 5, 6, 7] rfl rfl rfl (Nat.le_of_ble_eq_true rfl) (fun u => [(h_, .inr (11, [.ref h_rules, g_history, g_sets, g_setsBefore, g_table, g_failure, g_input, g_parser, .ref h_examples, g_repairer])), (h_rules, .inr (6, [.ref h_rules_codes, .int c_rules_count])), (h_rules_codes, .inl (tc.1, 24, .inl c_rules_codes)), (h_examples, .inr (0, [.ref h_rules, .ref h_examples_words, .int u.2.2.2, g_examples_exampleKey])), (h_examples_words, .inr (10, [.ref h_examples_words_costs, .ref h_examples_words_highs, .ref h_examples_words_lows])), (h_examples_words_costs, .inl (tc.1, 362, .inl u.1)), (h_examples_words_highs, .inl (tc.2.1, 362, .inr (.inl u.2.1))), (h_examples_words_lows, .inl (tc.2.1, 362, .inr (.inl u.2.2.1)))]) (fun _ => rfl) (fun _ => rfl) (fun _ => rfl) (fun o4 => ?_)
      refine j_callVI0 (As := [.int o4.1]) C d11_shortestLength_22 mv11_186 (kX10_lengthOf _ _ tc 362 h_examples_words h_examples_words_costs (.ref h_examples_words_highs) (.ref h_examples_words_lows) o4.2.1 o4.1) ⟨rfl, rfl, Nat.le_of_ble_eq_true rfl, Nat.le_of_ble_eq_true rfl⟩ rfl 4 rfl [4, 5] rfl rfl rfl (Nat.le_of_ble_eq_true rfl) (fun x5 => ?_)
      refine j_goto C d11_shortestLength_25 ?_
      exact j_sub [] rfl (hk3 _)

theorem d11_shortestTerminal_0 : jdi cX11_shortestTerminal 0 1 1 := Or.inl ⟨1, by decide +kernel⟩
theorem d11_shortestTerminal_1 : jd cX11_shortestTerminal 1 (.invokestatic 90) 3 4 := by decide +kernel
theorem d11_shortestTerminal_4 : jdb cX11_shortestTerminal 4 (.ifCond .eq 25) 25 29 7 := by decide +kernel
theorem d11_shortestTerminal_7 : jda cX11_shortestTerminal 7 0 8 := Or.inl ⟨0, by decide +kernel⟩
theorem d11_shortestTerminal_8 : jd cX11_shortestTerminal 8 (.getfield 70) 3 11 := by decide +kernel
theorem d11_shortestTerminal_11 : jd cX11_shortestTerminal 11 (.getfield 179) 3 14 := by decide +kernel
theorem d11_shortestTerminal_14 : jda cX11_shortestTerminal 14 0 15 := Or.inl ⟨0, by decide +kernel⟩
theorem d11_shortestTerminal_15 : jd cX11_shortestTerminal 15 (.getfield 70) 3 18 := by decide +kernel
theorem d11_shortestTerminal_18 : jdi cX11_shortestTerminal 18 1 19 := Or.inl ⟨1, by decide +kernel⟩
theorem d11_shortestTerminal_19 : jd cX11_shortestTerminal 19 (.invokevirtual 183) 3 22 := by decide +kernel
theorem d11_shortestTerminal_22 : jdi cX11_shortestTerminal 22 2 23 := Or.inl ⟨2, by decide +kernel⟩
theorem d11_shortestTerminal_23 : jd cX11_shortestTerminal 23 (.invokevirtual 189) 3 26 := by decide +kernel
theorem d11_shortestTerminal_26 : jdb cX11_shortestTerminal 26 (.goto 4) 4 30 29 := by decide +kernel
theorem d11_shortestTerminal_29 : jdk cX11_shortestTerminal 29 (-1) 30 := Or.inl ⟨(-1), by decide +kernel⟩
theorem d11_shortestTerminal_30 : decode cX11_shortestTerminal 30 = .ok (.ireturn, 1) := by decide +kernel
set_option maxHeartbeats 4000000 in
set_option maxRecDepth 100000 in
theorem kX11_shortestTerminal (l : Launch) (D : va_G) (tc : jTC) (N : Nat) (h_ h_rules h_rules_codes h_examples h_examples_words h_examples_words_costs h_examples_words_highs h_examples_words_lows : Nat) (g_history g_sets g_setsBefore g_table g_failure g_input g_parser g_repairer g_examples_exampleKey : Value) (c_rules_codes : (Nat → Int32)) (c_rules_count : Int32) (c_examples_words_costs : (Nat → Int32)) (c_examples_words_highs : (Nat → Int64)) (c_examples_words_lows : (Nat → Int64)) (c_examples_plainKnown : Int32) (p1 : Int32) (p2 : Int32) : ctI l D tc yX11_shortestTerminal (Cond.code yX11_shortestTerminal cX11_shortestTerminal 3 (some .int) :: jtb) ({ frames := 6, cells := 0, slots := 0, locals := 138 } : Room) [.ref h_, .int p1, .int p2] [(h_, .inr (11, [.ref h_rules, g_history, g_sets, g_setsBefore, g_table, g_failure, g_input, g_parser, .ref h_examples, g_repairer])), (h_rules, .inr (6, [.ref h_rules_codes, .int c_rules_count])), (h_rules_codes, .inl (tc.1, 24, .inl c_rules_codes)), (h_examples, .inr (0, [.ref h_rules, .ref h_examples_words, .int c_examples_plainKnown, g_examples_exampleKey])), (h_examples_words, .inr (10, [.ref h_examples_words_costs, .ref h_examples_words_highs, .ref h_examples_words_lows])), (h_examples_words_costs, .inl (tc.1, 362, .inl c_examples_words_costs)), (h_examples_words_highs, .inl (tc.2.1, 362, .inr (.inl c_examples_words_highs))), (h_examples_words_lows, .inl (tc.2.1, 362, .inr (.inl c_examples_words_lows)))] (fX11_shortestTerminal N c_rules_codes c_rules_count c_examples_words_costs c_examples_words_highs c_examples_words_lows c_examples_plainKnown p1 p2) (fun (u : (Nat → Int32) × (Nat → Int64) × (Nat → Int64) × Int32) => [(h_, .inr (11, [.ref h_rules, g_history, g_sets, g_setsBefore, g_table, g_failure, g_input, g_parser, .ref h_examples, g_repairer])), (h_rules, .inr (6, [.ref h_rules_codes, .int c_rules_count])), (h_rules_codes, .inl (tc.1, 24, .inl c_rules_codes)), (h_examples, .inr (0, [.ref h_rules, .ref h_examples_words, .int u.2.2.2, g_examples_exampleKey])), (h_examples_words, .inr (10, [.ref h_examples_words_costs, .ref h_examples_words_highs, .ref h_examples_words_lows])), (h_examples_words_costs, .inl (tc.1, 362, .inl u.1)), (h_examples_words_highs, .inl (tc.2.1, 362, .inr (.inl u.2.1))), (h_examples_words_lows, .inl (tc.2.1, 362, .inr (.inl u.2.2.1)))]) := by
  refine ctI_of (lv0 := [(0, .ref h_), (1, .int p1), (2, .int p2)]) (by decide +kernel) (Nat.le_of_ble_eq_true rfl) rfl (fun X C => ?_)
  unfold fX11_shortestTerminal
  refine j_iload C d11_shortestTerminal_0 1 rfl ?_
  refine j_callSI0 (As := [.int p1]) C d11_shortestTerminal_1 ms11_90 (kX11_isNonterminal _ _ tc p1) ⟨rfl, rfl, Nat.le_of_ble_eq_true rfl, Nat.le_of_ble_eq_true rfl⟩ rfl [] rfl rfl rfl (Nat.le_of_ble_eq_true rfl) (fun x1 => ?_)
  refine j_join 30 (fun v2 => [(h_, .inr (11, [.ref h_rules, g_history, g_sets, g_setsBefore, g_table, g_failure, g_input, g_parser, .ref h_examples, g_repairer])), (h_rules, .inr (6, [.ref h_rules_codes, .int c_rules_count])), (h_rules_codes, .inl (tc.1, 24, .inl c_rules_codes)), (h_examples, .inr (0, [.ref h_rules, .ref h_examples_words, .int v2.2.2.2.2, g_examples_exampleKey])), (h_examples_words, .inr (10, [.ref h_examples_words_costs, .ref h_examples_words_highs, .ref h_examples_words_lows])), (h_examples_words_costs, .inl (tc.1, 362, .inl v2.2.1)), (h_examples_words_highs, .inl (tc.2.1, 362, .inr (.inl v2.2.2.1))), (h_examples_words_lows, .inl (tc.2.1, 362, .inr (.inl v2.2.2.2.1)))]) (fun v2 => []) (fun v2 => [.int v2.1]) (fun v2 => ?_) (fun k3 hk3 => ?_)
  · exact j_iret C d11_shortestTerminal_30 rfl
  · refine j_if_eq C d11_shortestTerminal_4 ?_ ?_
    · refine j_const C d11_shortestTerminal_29 ?_
      exact j_sub [] rfl (hk3 _)
    · refine j_aload C d11_shortestTerminal_7 0 rfl ?_
      refine j_get C d11_shortestTerminal_8 fl11_70 0 rfl rfl ?_
      refine j_get C d11_shortestTerminal_11 fl11_179 3 rfl rfl ?_
      refine j_aload C d11_shortestTerminal_14 0 rfl ?_
      refine j_get C d11_shortestTerminal_15 fl11_70 0 rfl rfl ?_
      refine j_iload C d11_shortestTerminal_18 1 rfl ?_
      refine j_callVI (As := [.int p1]) C d11_shortestTerminal_19 mv11_183 (kX0_shortestWord _ _ tc N h_examples h_rules h_rules_codes h_examples_words h_examples_words_costs h_examples_words_highs h_examples_words_lows g_examples_exampleKey c_rules_codes c_rules_count c_examples_words_costs c_examples_words_highs c_examples_words_lows c_examples_plainKnown p1) ⟨rfl, rfl, Nat.le_of_ble_eq_true rfl, Nat.le_of_ble_eq_true rfl⟩ rfl 3 rfl [3, 1, 2, 4, 5, 6, 7] rfl rfl rfl (Nat.le_of_ble_eq_true rfl) (fun u => [(h_, .inr (11, [.ref h_rules, g_history, g_sets, g_setsBefore, g_table, g_failure, g_input, g_parser, .ref h_examples, g_repairer])), (h_rules, .inr (6, [.ref h_rules_codes, .int c_rules_count])), (h_rules_codes, .inl (tc.1, 24, .inl c_rules_codes)), (h_examples, .inr (0, [.ref h_rules, .ref h_examples_words, .int u.2.2.2, g_examples_exampleKey])), (h_examples_words, .inr (10, [.ref h_examples_words_costs, .ref h_examples_words_highs, .ref h_examples_words_lows])), (h_examples_words_costs, .inl (tc.1, 362, .inl u.1)), (h_examples_words_highs, .inl (tc.2.1, 362, .inr (.inl u.2.1))), (h_examples_words_lows, .inl (tc.2.1, 362, .inr (.inl u.2.2.1)))]) (fun _ => rfl) (fun _ => rfl) (fun _ => rfl) (fun o4 => ?_)
      refine j_iload C d11_shortestTerminal_22 2 rfl ?_
      refine j_callVI0 (As := [.int o4.1, .int p2]) C d11_shortestTerminal_23 mv11_189 (kX10_terminalOf _ _ tc 362 h_examples_words h_examples_words_costs h_examples_words_highs h_examples_words_lows o4.2.1 o4.2.2.1 o4.2.2.2.1 o4.1 p2) ⟨rfl, rfl, Nat.le_of_ble_eq_true rfl, Nat.le_of_ble_eq_true rfl⟩ rfl 4 rfl [4, 5, 6, 7] rfl rfl rfl (Nat.le_of_ble_eq_true rfl) (fun x5 => ?_)
      refine j_goto C d11_shortestTerminal_26 ?_
      exact j_sub [] rfl (hk3 _)

theorem d11_tableEntry_0 : jdi cX11_tableEntry 0 1 1 := Or.inl ⟨1, by decide +kernel⟩
theorem d11_tableEntry_1 : jd cX11_tableEntry 1 (.invokestatic 90) 3 4 := by decide +kernel
theorem d11_tableEntry_4 : jdb cX11_tableEntry 4 (.ifCond .eq 13) 13 17 7 := by decide +kernel
theorem d11_tableEntry_7 : jdi cX11_tableEntry 7 2 8 := Or.inl ⟨2, by decide +kernel⟩
theorem d11_tableEntry_8 : jdb cX11_tableEntry 8 (.ifCond .lt 9) 9 17 11 := by decide +kernel
theorem d11_tableEntry_11 : jdi cX11_tableEntry 11 2 12 := Or.inl ⟨2, by decide +kernel⟩
theorem d11_tableEntry_12 : jdk cX11_tableEntry 12 8 14 := Or.inr (Or.inl ⟨8, by decide +kernel⟩)
theorem d11_tableEntry_14 : jdb cX11_tableEntry 14 (.if_icmp .le 5) 5 19 17 := by decide +kernel
theorem d11_tableEntry_17 : jdk cX11_tableEntry 17 (-1) 18 := Or.inl ⟨(-1), by decide +kernel⟩
theorem d11_tableEntry_18 : decode cX11_tableEntry 18 = .ok (.ireturn, 1) := by decide +kernel
theorem d11_tableEntry_19 : jda cX11_tableEntry 19 0 20 := Or.inl ⟨0, by decide +kernel⟩
theorem d11_tableEntry_20 : jd cX11_tableEntry 20 (.getfield 38) 3 23 := by decide +kernel
theorem d11_tableEntry_23 : jdi cX11_tableEntry 23 1 24 := Or.inl ⟨1, by decide +kernel⟩
theorem d11_tableEntry_24 : jdi cX11_tableEntry 24 2 25 := Or.inl ⟨2, by decide +kernel⟩
theorem d11_tableEntry_25 : jd cX11_tableEntry 25 (.invokevirtual 192) 3 28 := by decide +kernel
theorem d11_tableEntry_28 : decode cX11_tableEntry 28 = .ok (.ireturn, 1) := by decide +kernel
set_option maxHeartbeats 4000000 in
set_option maxRecDepth 100000 in
theorem kX11_tableEntry (l : Launch) (D : va_G) (tc : jTC) (h_ h_table h_table_possible h_table_lowest : Nat) (g_rules g_history g_sets g_setsBefore g_failure g_input g_parser g_examples g_repairer g_table_rules g_table_sets g_table_select g_table_conflicts : Value) (c_table_possible : (Nat → Int32)) (c_table_lowest : (Nat → Int32)) (p1 : Int32) (p2 : Int32) : ctI0 l D tc yX11_tableEntry (Cond.code yX11_tableEntry cX11_tableEntry 3 (some .int) :: jtb) ({ frames := 1, cells := 0, slots := 0, locals := 23 } : Room) [.ref h_, .int p1, .int p2] [(h_, .inr (11, [g_rules, g_history, g_sets, g_setsBefore, .ref h_table, g_failure, g_input, g_parser, g_examples, g_repairer])), (h_table, .inr (8, [g_table_rules, g_table_sets, g_table_select, .ref h_table_possible, .ref h_table_lowest, g_table_conflicts])), (h_table_possible, .inl (tc.1, 72, .inl c_table_possible)), (h_table_lowest, .inl (tc.1, 72, .inl c_table_lowest))] (fX11_tableEntry c_table_possible c_table_lowest p1 p2) := by
  refine ctI0_of (lv0 := [(0, .ref h_), (1, .int p1), (2, .int p2)]) (by decide +kernel) (Nat.le_of_ble_eq_true rfl) rfl (fun X C => ?_)
  unfold fX11_tableEntry
  refine j_iload C d11_tableEntry_0 1 rfl ?_
  refine j_callSI0 (As := [.int p1]) C d11_tableEntry_1 ms11_90 (kX11_isNonterminal _ _ tc p1) ⟨rfl, rfl, Nat.le_of_ble_eq_true rfl, Nat.le_of_ble_eq_true rfl⟩ rfl [] rfl rfl rfl (Nat.le_of_ble_eq_true rfl) (fun x1 => ?_)
  refine j_join 17 (fun v2 => [(h_, .inr (11, [g_rules, g_history, g_sets, g_setsBefore, .ref h_table, g_failure, g_input, g_parser, g_examples, g_repairer])), (h_table, .inr (8, [g_table_rules, g_table_sets, g_table_select, .ref h_table_possible, .ref h_table_lowest, g_table_conflicts])), (h_table_possible, .inl (tc.1, 72, .inl c_table_possible)), (h_table_lowest, .inl (tc.1, 72, .inl c_table_lowest))]) (fun v2 => []) (fun v2 => []) (fun v2 => ?_) (fun k3 hk3 => ?_)
  · refine j_const C d11_tableEntry_17 ?_
    exact j_iret0 C d11_tableEntry_18
  · refine j_if_eq C d11_tableEntry_4 ?_ ?_
    · exact j_sub [] rfl (hk3 _)
    · refine j_iload C d11_tableEntry_7 2 rfl ?_
      refine j_if_lt C d11_tableEntry_8 ?_ ?_
      · exact j_sub [] rfl (hk3 _)
      · refine j_iload C d11_tableEntry_11 2 rfl ?_
        refine j_const C d11_tableEntry_12 ?_
        refine j_icmp_le C d11_tableEntry_14 ?_ ?_
        · refine j_aload C d11_tableEntry_19 0 rfl ?_
          refine j_get C d11_tableEntry_20 fl11_38 0 rfl rfl ?_
          refine j_iload C d11_tableEntry_23 1 rfl ?_
          refine j_iload C d11_tableEntry_24 2 rfl ?_
          refine j_callVI0 (As := [.int p1, .int p2]) C d11_tableEntry_25 mv11_192 (kX8_entry _ _ tc h_table h_table_possible h_table_lowest g_table_rules g_table_sets g_table_select g_table_conflicts c_table_possible c_table_lowest p1 p2) ⟨rfl, rfl, Nat.le_of_ble_eq_true rfl, Nat.le_of_ble_eq_true rfl⟩ rfl 1 rfl [1, 2, 3] rfl rfl rfl (Nat.le_of_ble_eq_true rfl) (fun x4 => ?_)
          exact j_iret0 C d11_tableEntry_28
        · exact j_sub [] rfl (hk3 _)

theorem d11_conflictCount_0 : jda cX11_conflictCount 0 0 1 := Or.inl ⟨0, by decide +kernel⟩
theorem d11_conflictCount_1 : jd cX11_conflictCount 1 (.getfield 38) 3 4 := by decide +kernel
theorem d11_conflictCount_4 : jd cX11_conflictCount 4 (.getfield 195) 3 7 := by decide +kernel
theorem d11_conflictCount_7 : decode cX11_conflictCount 7 = .ok (.ireturn, 1) := by decide +kernel
set_option maxHeartbeats 4000000 in
set_option maxRecDepth 100000 in
theorem kX11_conflictCount (l : Launch) (D : va_G) (tc : jTC) (h_ h_table : Nat) (g_rules g_history g_sets g_setsBefore g_failure g_input g_parser g_examples g_repairer g_table_rules g_table_sets g_table_select g_table_possible g_table_lowest : Value) (c_table_conflicts : Int32) : ctI0 l D tc yX11_conflictCount (Cond.code yX11_conflictCount cX11_conflictCount 1 (some .int) :: jtb) ({ frames := 0, cells := 0, slots := 0, locals := 0 } : Room) [.ref h_] [(h_, .inr (11, [g_rules, g_history, g_sets, g_setsBefore, .ref h_table, g_failure, g_input, g_parser, g_examples, g_repairer])), (h_table, .inr (8, [g_table_rules, g_table_sets, g_table_select, g_table_possible, g_table_lowest, .int c_table_conflicts]))] (fX11_conflictCount c_table_conflicts) := by
  refine ctI0_of (lv0 := [(0, .ref h_)]) (by decide +kernel) (Nat.le_of_ble_eq_true rfl) rfl (fun X C => ?_)
  unfold fX11_conflictCount
  refine j_aload C d11_conflictCount_0 0 rfl ?_
  refine j_get C d11_conflictCount_1 fl11_38 0 rfl rfl ?_
  refine j_get C d11_conflictCount_4 fl11_195 1 rfl rfl ?_
  exact j_iret0 C d11_conflictCount_7

theorem d11_isConflict_0 : jdi cX11_isConflict 0 1 1 := Or.inl ⟨1, by decide +kernel⟩
theorem d11_isConflict_1 : jdb cX11_isConflict 1 (.ifCond .lt 18) 18 19 4 := by decide +kernel
theorem d11_isConflict_4 : jdi cX11_isConflict 4 1 5 := Or.inl ⟨1, by decide +kernel⟩
theorem d11_isConflict_5 : jda cX11_isConflict 5 0 6 := Or.inl ⟨0, by decide +kernel⟩
theorem d11_isConflict_6 : jd cX11_isConflict 6 (.getfield 38) 3 9 := by decide +kernel
theorem d11_isConflict_9 : jd cX11_isConflict 9 (.getfield 195) 3 12 := by decide +kernel
theorem d11_isConflict_12 : jdb cX11_isConflict 12 (.if_icmp .ge 7) 7 19 15 := by decide +kernel
theorem d11_isConflict_15 : jdk cX11_isConflict 15 1 16 := Or.inl ⟨1, by decide +kernel⟩
theorem d11_isConflict_16 : jdb cX11_isConflict 16 (.goto 4) 4 20 19 := by decide +kernel
theorem d11_isConflict_19 : jdk cX11_isConflict 19 0 20 := Or.inl ⟨0, by decide +kernel⟩
theorem d11_isConflict_20 : decode cX11_isConflict 20 = .ok (.ireturn, 1) := by decide +kernel
set_option maxHeartbeats 4000000 in
set_option maxRecDepth 100000 in
theorem kX11_isConflict (l : Launch) (D : va_G) (tc : jTC) (h_ h_table : Nat) (g_rules g_history g_sets g_setsBefore g_failure g_input g_parser g_examples g_repairer g_table_rules g_table_sets g_table_select g_table_possible g_table_lowest : Value) (c_table_conflicts : Int32) (p1 : Int32) : ctI0 l D tc yX11_isConflict (Cond.code yX11_isConflict cX11_isConflict 2 (some .boolean) :: jtb) ({ frames := 0, cells := 0, slots := 0, locals := 0 } : Room) [.ref h_, .int p1] [(h_, .inr (11, [g_rules, g_history, g_sets, g_setsBefore, .ref h_table, g_failure, g_input, g_parser, g_examples, g_repairer])), (h_table, .inr (8, [g_table_rules, g_table_sets, g_table_select, g_table_possible, g_table_lowest, .int c_table_conflicts]))] (fX11_isConflict c_table_conflicts p1) := by
  refine ctI0_of (lv0 := [(0, .ref h_), (1, .int p1)]) (by decide +kernel) (Nat.le_of_ble_eq_true rfl) rfl (fun X C => ?_)
  unfold fX11_isConflict
  refine j_iload C d11_isConflict_0 1 rfl ?_
  refine j_join 20 (fun v1 => [(h_, .inr (11, [g_rules, g_history, g_sets, g_setsBefore, .ref h_table, g_failure, g_input, g_parser, g_examples, g_repairer])), (h_table, .inr (8, [g_table_rules, g_table_sets, g_table_select, g_table_possible, g_table_lowest, .int c_table_conflicts]))]) (fun v1 => []) (fun v1 => [.int v1]) (fun v1 => ?_) (fun k2 hk2 => ?_)
  · refine j_gz (fun hz => ?_)
    exact j_zret0 C hz d11_isConflict_20
  · refine j_join 19 (fun v3 => [(h_, .inr (11, [g_rules, g_history, g_sets, g_setsBefore, .ref h_table, g_failure, g_input, g_parser, g_examples, g_repairer])), (h_table, .inr (8, [g_table_rules, g_table_sets, g_table_select, g_table_possible, g_table_lowest, .int c_table_conflicts]))]) (fun v3 => []) (fun v3 => []) (fun v3 => ?_) (fun k4 hk4 => ?_)
    · refine j_const C d11_isConflict_19 ?_
      exact hk2 _
    · refine j_if_lt C d11_isConflict_1 ?_ ?_
      · exact j_sub [] rfl (hk4 _)
      · refine j_iload C d11_isConflict_4 1 rfl ?_
        refine j_aload C d11_isConflict_5 0 rfl ?_
        refine j_get C d11_isConflict_6 fl11_38 0 rfl rfl ?_
        refine j_get C d11_isConflict_9 fl11_195 1 rfl rfl ?_
        refine j_icmp_ge C d11_isConflict_12 ?_ ?_
        · exact j_sub [] rfl (hk4 _)
        · refine j_const C d11_isConflict_15 ?_
          refine j_goto C d11_isConflict_16 ?_
          exact j_sub [] rfl (hk2 _)

theorem d11_conflict_0 : jda cX11_conflict 0 0 1 := Or.inl ⟨0, by decide +kernel⟩
theorem d11_conflict_1 : jdi cX11_conflict 1 1 2 := Or.inl ⟨1, by decide +kernel⟩
theorem d11_conflict_2 : jd cX11_conflict 2 (.invokevirtual 198) 3 5 := by decide +kernel
theorem d11_conflict_5 : jdb cX11_conflict 5 (.ifCond .eq 12) 12 17 8 := by decide +kernel
theorem d11_conflict_8 : jdi cX11_conflict 8 2 9 := Or.inl ⟨2, by decide +kernel⟩
theorem d11_conflict_9 : jdb cX11_conflict 9 (.ifCond .lt 8) 8 17 12 := by decide +kernel
theorem d11_conflict_12 : jdi cX11_conflict 12 2 13 := Or.inl ⟨2, by decide +kernel⟩
theorem d11_conflict_13 : jdk cX11_conflict 13 3 14 := Or.inl ⟨3, by decide +kernel⟩
theorem d11_conflict_14 : jdb cX11_conflict 14 (.if_icmp .le 5) 5 19 17 := by decide +kernel
theorem d11_conflict_17 : jdk cX11_conflict 17 (-1) 18 := Or.inl ⟨(-1), by decide +kernel⟩
theorem d11_conflict_18 : decode cX11_conflict 18 = .ok (.ireturn, 1) := by decide +kernel
theorem d11_conflict_19 : jda cX11_conflict 19 0 20 := Or.inl ⟨0, by decide +kernel⟩
theorem d11_conflict_20 : jd cX11_conflict 20 (.getfield 38) 3 23 := by decide +kernel
theorem d11_conflict_23 : jdi cX11_conflict 23 1 24 := Or.inl ⟨1, by decide +kernel⟩
theorem d11_conflict_24 : jd cX11_conflict 24 (.invokevirtual 201) 3 27 := by decide +kernel
theorem d11_conflict_27 : jdi cX11_conflict 27 2 28 := Or.inl ⟨2, by decide +kernel⟩
theorem d11_conflict_28 : jd cX11_conflict 28 (.invokestatic 204) 3 31 := by decide +kernel
theorem d11_conflict_31 : decode cX11_conflict 31 = .ok (.ireturn, 1) := by decide +kernel
set_option maxHeartbeats 4000000 in
set_option maxRecDepth 100000 in
theorem kX11_conflict (l : Launch) (D : va_G) (tc : jTC) (N : Nat) (h_ h_rules h_rules_codes h_table h_table_select h_table_possible : Nat) (g_history g_sets g_setsBefore g_failure g_input g_parser g_examples g_repairer g_table_sets g_table_lowest : Value) (c_rules_codes : (Nat → Int32)) (c_rules_count : Int32) (c_table_select : (Nat → Int32)) (c_table_possible : (Nat → Int32)) (c_table_conflicts : Int32) (p1 : Int32) (p2 : Int32) : ctI0 l D tc yX11_conflict (Cond.code yX11_conflict cX11_conflict 3 (some .int) :: jtb) ({ frames := 5, cells := 0, slots := 0, locals := 112 } : Room) [.ref h_, .int p1, .int p2] [(h_, .inr (11, [.ref h_rules, g_history, g_sets, g_setsBefore, .ref h_table, g_failure, g_input, g_parser, g_examples, g_repairer])), (h_rules, .inr (6, [.ref h_rules_codes, .int c_rules_count])), (h_rules_codes, .inl (tc.1, 24, .inl c_rules_codes)), (h_table, .inr (8, [.ref h_rules, g_table_sets, .ref h_table_select, .ref h_table_possible, g_table_lowest, .int c_table_conflicts])), (h_table_select, .inl (tc.1, 24, .inl c_table_select)), (h_table_possible, .inl (tc.1, 72, .inl c_table_possible))] (fX11_conflict N c_rules_codes c_rules_count c_table_select c_table_possible c_table_conflicts p1 p2) := by
  refine ctI0_of (lv0 := [(0, .ref h_), (1, .int p1), (2, .int p2)]) (by decide +kernel) (Nat.le_of_ble_eq_true rfl) rfl (fun X C => ?_)
  unfold fX11_conflict
  refine j_aload C d11_conflict_0 0 rfl ?_
  refine j_iload C d11_conflict_1 1 rfl ?_
  refine j_callVI0 (As := [.int p1]) C d11_conflict_2 mv11_198 (kX11_isConflict _ _ tc h_ h_table (.ref h_rules) g_history g_sets g_setsBefore g_failure g_input g_parser g_examples g_repairer (.ref h_rules) g_table_sets (.ref h_table_select) (.ref h_table_possible) g_table_lowest c_table_conflicts p1) ⟨rfl, rfl, Nat.le_of_ble_eq_true rfl, Nat.le_of_ble_eq_true rfl⟩ rfl 0 rfl [0, 3] rfl rfl rfl (Nat.le_of_ble_eq_true rfl) (fun x1 => ?_)
  refine j_join 17 (fun v2 => [(h_, .inr (11, [.ref h_rules, g_history, g_sets, g_setsBefore, .ref h_table, g_failure, g_input, g_parser, g_examples, g_repairer])), (h_rules, .inr (6, [.ref h_rules_codes, .int c_rules_count])), (h_rules_codes, .inl (tc.1, 24, .inl c_rules_codes)), (h_table, .inr (8, [.ref h_rules, g_table_sets, .ref h_table_select, .ref h_table_possible, g_table_lowest, .int c_table_conflicts])), (h_table_select, .inl (tc.1, 24, .inl c_table_select)), (h_table_possible, .inl (tc.1, 72, .inl c_table_possible))]) (fun v2 => []) (fun v2 => []) (fun v2 => ?_) (fun k3 hk3 => ?_)
  · refine j_const C d11_conflict_17 ?_
    exact j_iret0 C d11_conflict_18
  · refine j_if_eq C d11_conflict_5 ?_ ?_
    · exact j_sub [] rfl (hk3 _)
    · refine j_iload C d11_conflict_8 2 rfl ?_
      refine j_if_lt C d11_conflict_9 ?_ ?_
      · exact j_sub [] rfl (hk3 _)
      · refine j_iload C d11_conflict_12 2 rfl ?_
        refine j_const C d11_conflict_13 ?_
        refine j_icmp_le C d11_conflict_14 ?_ ?_
        · refine j_aload C d11_conflict_19 0 rfl ?_
          refine j_get C d11_conflict_20 fl11_38 0 rfl rfl ?_
          refine j_iload C d11_conflict_23 1 rfl ?_
          refine j_callVI0 (As := [.int p1]) C d11_conflict_24 mv11_201 (kX8_conflictAt _ _ tc N h_table h_rules h_rules_codes h_table_select h_table_possible g_table_sets g_table_lowest (.int c_table_conflicts) c_rules_codes c_rules_count c_table_select c_table_possible p1) ⟨rfl, rfl, Nat.le_of_ble_eq_true rfl, Nat.le_of_ble_eq_true rfl⟩ rfl 3 rfl [3, 1, 2, 4, 5] rfl rfl rfl (Nat.le_of_ble_eq_true rfl) (fun x4 => ?_)
          refine j_iload C d11_conflict_27 2 rfl ?_
          refine j_callSI0 (As := [.int x4, .int p2]) C d11_conflict_28 ms11_204 (kX8_partOf _ _ tc x4 p2) ⟨rfl, rfl, Nat.le_of_ble_eq_true rfl, Nat.le_of_ble_eq_true rfl⟩ rfl [] rfl rfl rfl (Nat.le_of_ble_eq_true rfl) (fun x5 => ?_)
          exact j_iret0 C d11_conflict_31
        · exact j_sub [] rfl (hk3 _)

theorem d11_conflictKind_0 : jda cX11_conflictKind 0 0 1 := Or.inl ⟨0, by decide +kernel⟩
theorem d11_conflictKind_1 : jdi cX11_conflictKind 1 1 2 := Or.inl ⟨1, by decide +kernel⟩
theorem d11_conflictKind_2 : jd cX11_conflictKind 2 (.invokevirtual 198) 3 5 := by decide +kernel
theorem d11_conflictKind_5 : jdb cX11_conflictKind 5 (.ifCond .eq 21) 21 26 8 := by decide +kernel
theorem d11_conflictKind_8 : jda cX11_conflictKind 8 0 9 := Or.inl ⟨0, by decide +kernel⟩
theorem d11_conflictKind_9 : jd cX11_conflictKind 9 (.getfield 38) 3 12 := by decide +kernel
theorem d11_conflictKind_12 : jda cX11_conflictKind 12 0 13 := Or.inl ⟨0, by decide +kernel⟩
theorem d11_conflictKind_13 : jd cX11_conflictKind 13 (.getfield 38) 3 16 := by decide +kernel
theorem d11_conflictKind_16 : jdi cX11_conflictKind 16 1 17 := Or.inl ⟨1, by decide +kernel⟩
theorem d11_conflictKind_17 : jd cX11_conflictKind 17 (.invokevirtual 201) 3 20 := by decide +kernel
theorem d11_conflictKind_20 : jd cX11_conflictKind 20 (.invokevirtual 207) 3 23 := by decide +kernel
theorem d11_conflictKind_23 : jdb cX11_conflictKind 23 (.goto 4) 4 27 26 := by decide +kernel
theorem d11_conflictKind_26 : jdk cX11_conflictKind 26 (-1) 27 := Or.inl ⟨(-1), by decide +kernel⟩
theorem d11_conflictKind_27 : decode cX11_conflictKind 27 = .ok (.ireturn, 1) := by decide +kernel
set_option maxHeartbeats 4000000 in
set_option maxRecDepth 100000 in
theorem kX11_conflictKind (l : Launch) (D : va_G) (tc : jTC) (N : Nat) (h_ h_rules h_rules_codes h_sets h_sets_first h_table h_table_select h_table_possible : Nat) (g_history g_setsBefore g_failure g_input g_parser g_examples g_repairer g_sets_follow g_sets_begins g_table_lowest : Value) (c_rules_codes : (Nat → Int32)) (c_rules_count : Int32) (c_sets_nullable : Int32) (c_sets_first : (Nat → Int32)) (c_table_select : (Nat → Int32)) (c_table_possible : (Nat → Int32)) (c_table_conflicts : Int32) (p1 : Int32) : ctI0 l D tc yX11_conflictKind (Cond.code yX11_conflictKind cX11_conflictKind 2 (some .int) :: jtb) ({ frames := 5, cells := 0, slots := 0, locals := 112 } : Room) [.ref h_, .int p1] [(h_, .inr (11, [.ref h_rules, g_history, .ref h_sets, g_setsBefore, .ref h_table, g_failure, g_input, g_parser, g_examples, g_repairer])), (h_rules, .inr (6, [.ref h_rules_codes, .int c_rules_count])), (h_rules_codes, .inl (tc.1, 24, .inl c_rules_codes)), (h_sets, .inr (7, [.int c_sets_nullable, .ref h_sets_first, g_sets_follow, g_sets_begins])), (h_sets_first, .inl (tc.1, 8, .inl c_sets_first)), (h_table, .inr (8, [.ref h_rules, .ref h_sets, .ref h_table_select, .ref h_table_possible, g_table_lowest, .int c_table_conflicts])), (h_table_select, .inl (tc.1, 24, .inl c_table_select)), (h_table_possible, .inl (tc.1, 72, .inl c_table_possible))] (fX11_conflictKind N c_rules_codes c_rules_count c_sets_nullable c_sets_first c_table_select c_table_possible c_table_conflicts p1) := by
  refine ctI0_of (lv0 := [(0, .ref h_), (1, .int p1)]) (by decide +kernel) (Nat.le_of_ble_eq_true rfl) rfl (fun X C => ?_)
  unfold fX11_conflictKind
  refine j_aload C d11_conflictKind_0 0 rfl ?_
  refine j_iload C d11_conflictKind_1 1 rfl ?_
  refine j_callVI0 (As := [.int p1]) C d11_conflictKind_2 mv11_198 (kX11_isConflict _ _ tc h_ h_table (.ref h_rules) g_history (.ref h_sets) g_setsBefore g_failure g_input g_parser g_examples g_repairer (.ref h_rules) (.ref h_sets) (.ref h_table_select) (.ref h_table_possible) g_table_lowest c_table_conflicts p1) ⟨rfl, rfl, Nat.le_of_ble_eq_true rfl, Nat.le_of_ble_eq_true rfl⟩ rfl 0 rfl [0, 5] rfl rfl rfl (Nat.le_of_ble_eq_true rfl) (fun x1 => ?_)
  refine j_join 27 (fun v2 => [(h_, .inr (11, [.ref h_rules, g_history, .ref h_sets, g_setsBefore, .ref h_table, g_failure, g_input, g_parser, g_examples, g_repairer])), (h_rules, .inr (6, [.ref h_rules_codes, .int c_rules_count])), (h_rules_codes, .inl (tc.1, 24, .inl c_rules_codes)), (h_sets, .inr (7, [.int c_sets_nullable, .ref h_sets_first, g_sets_follow, g_sets_begins])), (h_sets_first, .inl (tc.1, 8, .inl c_sets_first)), (h_table, .inr (8, [.ref h_rules, .ref h_sets, .ref h_table_select, .ref h_table_possible, g_table_lowest, .int c_table_conflicts])), (h_table_select, .inl (tc.1, 24, .inl c_table_select)), (h_table_possible, .inl (tc.1, 72, .inl c_table_possible))]) (fun v2 => []) (fun v2 => [.int v2]) (fun v2 => ?_) (fun k3 hk3 => ?_)
  · exact j_iret0 C d11_conflictKind_27
  · refine j_if_eq C d11_conflictKind_5 ?_ ?_
    · refine j_const C d11_conflictKind_26 ?_
      exact j_sub [] rfl (hk3 _)
    · refine j_aload C d11_conflictKind_8 0 rfl ?_
      refine j_get C d11_conflictKind_9 fl11_38 0 rfl rfl ?_
      refine j_aload C d11_conflictKind_12 0 rfl ?_
      refine j_get C d11_conflictKind_13 fl11_38 0 rfl rfl ?_
      refine j_iload C d11_conflictKind_16 1 rfl ?_
      refine j_callVI0 (As := [.int p1]) C d11_conflictKind_17 mv11_201 (kX8_conflictAt _ _ tc N h_table h_rules h_rules_codes h_table_select h_table_possible (.ref h_sets) g_table_lowest (.int c_table_conflicts) c_rules_codes c_rules_count c_table_select c_table_possible p1) ⟨rfl, rfl, Nat.le_of_ble_eq_true rfl, Nat.le_of_ble_eq_true rfl⟩ rfl 5 rfl [5, 1, 2, 6, 7] rfl rfl rfl (Nat.le_of_ble_eq_true rfl) (fun x4 => ?_)
      refine j_callVI0 (As := [.int x4]) C d11_conflictKind_20 mv11_207 (kX8_kindOf _ _ tc N h_table h_rules h_rules_codes h_sets h_sets_first (.ref h_table_select) (.ref h_table_possible) g_table_lowest (.int c_table_conflicts) g_sets_follow g_sets_begins c_rules_codes c_rules_count c_sets_nullable c_sets_first x4) ⟨rfl, rfl, Nat.le_of_ble_eq_true rfl, Nat.le_of_ble_eq_true rfl⟩ rfl 5 rfl [5, 1, 2, 3, 4] rfl rfl rfl (Nat.le_of_ble_eq_true rfl) (fun x5 => ?_)
      refine j_goto C d11_conflictKind_23 ?_
      exact j_sub [] rfl (hk3 _)

theorem d11_exampleWord_0 : jda cX11_exampleWord 0 0 1 := Or.inl ⟨0, by decide +kernel⟩
theorem d11_exampleWord_1 : jd cX11_exampleWord 1 (.getfield 38) 3 4 := by decide +kernel
theorem d11_exampleWord_4 : jdi cX11_exampleWord 4 1 5 := Or.inl ⟨1, by decide +kernel⟩
theorem d11_exampleWord_5 : jd cX11_exampleWord 5 (.invokevirtual 201) 3 8 := by decide +kernel
theorem d11_exampleWord_8 : jds cX11_exampleWord 8 3 9 := Or.inl ⟨3, by decide +kernel⟩
theorem d11_exampleWord_9 : jdi cX11_exampleWord 9 3 10 := Or.inl ⟨3, by decide +kernel⟩
theorem d11_exampleWord_10 : jdk cX11_exampleWord 10 2 11 := Or.inl ⟨2, by decide +kernel⟩
theorem d11_exampleWord_11 : jdi cX11_exampleWord 11 2 12 := Or.inl ⟨2, by decide +kernel⟩
theorem d11_exampleWord_12 : jd cX11_exampleWord 12 (.iadd) 1 13 := by decide +kernel
theorem d11_exampleWord_13 : jd cX11_exampleWord 13 (.invokestatic 204) 3 16 := by decide +kernel
theorem d11_exampleWord_16 : jds cX11_exampleWord 16 4 18 := Or.inr (by decide +kernel)
theorem d11_exampleWord_18 : jda cX11_exampleWord 18 0 19 := Or.inl ⟨0, by decide +kernel⟩
theorem d11_exampleWord_19 : jd cX11_exampleWord 19 (.getfield 70) 3 22 := by decide +kernel
theorem d11_exampleWord_22 : jdi cX11_exampleWord 22 4 24 := Or.inr (by decide +kernel)
theorem d11_exampleWord_24 : jdi cX11_exampleWord 24 3 25 := Or.inl ⟨3, by decide +kernel⟩
theorem d11_exampleWord_25 : jdk cX11_exampleWord 25 1 26 := Or.inl ⟨1, by decide +kernel⟩
theorem d11_exampleWord_26 : jd cX11_exampleWord 26 (.invokestatic 204) 3 29 := by decide +kernel
theorem d11_exampleWord_29 : jd cX11_exampleWord 29 (.invokevirtual 310) 3 32 := by decide +kernel
theorem d11_exampleWord_32 : decode cX11_exampleWord 32 = .ok (.ireturn, 1) := by decide +kernel
set_option maxHeartbeats 4000000 in
set_option maxRecDepth 100000 in
theorem kX11_exampleWord (l : Launch) (D : va_G) (tc : jTC) (N : Nat) (h_ h_rules h_rules_codes h_table h_table_select h_table_possible h_examples h_examples_words h_examples_words_costs h_examples_words_highs h_examples_words_lows : Nat) (g_history g_sets g_setsBefore g_failure g_input g_parser g_repairer g_table_sets g_table_lowest g_table_conflicts : Value) (c_rules_codes : (Nat → Int32)) (c_rules_count : Int32) (c_table_select : (Nat → Int32)) (c_table_possible : (Nat → Int32)) (c_examples_words_costs : (Nat → Int32)) (c_examples_words_highs : (Nat → Int64)) (c_examples_words_lows : (Nat → Int64)) (c_examples_plainKnown : Int32) (c_examples_exampleKey : Int32) (p1 : Int32) (p2 : Int32) : ctI l D tc yX11_exampleWord (Cond.code yX11_exampleWord cX11_exampleWord 5 (some .int) :: jtb) ({ frames := 7, cells := 0, slots := 0, locals := 165 } : Room) [.ref h_, .int p1, .int p2] [(h_, .inr (11, [.ref h_rules, g_history, g_sets, g_setsBefore, .ref h_table, g_failure, g_input, g_parser, .ref h_examples, g_repairer])), (h_rules, .inr (6, [.ref h_rules_codes, .int c_rules_count])), (h_rules_codes, .inl (tc.1, 24, .inl c_rules_codes)), (h_table, .inr (8, [.ref h_rules, g_table_sets, .ref h_table_select, .ref h_table_possible, g_table_lowest, g_table_conflicts])), (h_table_select, .inl (tc.1, 24, .inl c_table_select)), (h_table_possible, .inl (tc.1, 72, .inl c_table_possible)), (h_examples, .inr (0, [.ref h_rules, .ref h_examples_words, .int c_examples_plainKnown, .int c_examples_exampleKey])), (h_examples_words, .inr (10, [.ref h_examples_words_costs, .ref h_examples_words_highs, .ref h_examples_words_lows])), (h_examples_words_costs, .inl (tc.1, 362, .inl c_examples_words_costs)), (h_examples_words_highs, .inl (tc.2.1, 362, .inr (.inl c_examples_words_highs))), (h_examples_words_lows, .inl (tc.2.1, 362, .inr (.inl c_examples_words_lows)))] (fX11_exampleWord N c_rules_codes c_rules_count c_table_select c_table_possible c_examples_words_costs c_examples_words_highs c_examples_words_lows c_examples_plainKnown c_examples_exampleKey p1 p2) (fun (u : (Nat → Int32) × (Nat → Int64) × (Nat → Int64) × Int32 × Int32) => [(h_, .inr (11, [.ref h_rules, g_history, g_sets, g_setsBefore, .ref h_table, g_failure, g_input, g_parser, .ref h_examples, g_repairer])), (h_rules, .inr (6, [.ref h_rules_codes, .int c_rules_count])), (h_rules_codes, .inl (tc.1, 24, .inl c_rules_codes)), (h_table, .inr (8, [.ref h_rules, g_table_sets, .ref h_table_select, .ref h_table_possible, g_table_lowest, g_table_conflicts])), (h_table_select, .inl (tc.1, 24, .inl c_table_select)), (h_table_possible, .inl (tc.1, 72, .inl c_table_possible)), (h_examples, .inr (0, [.ref h_rules, .ref h_examples_words, .int u.2.2.2.1, .int u.2.2.2.2])), (h_examples_words, .inr (10, [.ref h_examples_words_costs, .ref h_examples_words_highs, .ref h_examples_words_lows])), (h_examples_words_costs, .inl (tc.1, 362, .inl u.1)), (h_examples_words_highs, .inl (tc.2.1, 362, .inr (.inl u.2.1))), (h_examples_words_lows, .inl (tc.2.1, 362, .inr (.inl u.2.2.1)))]) := by
  refine ctI_of (lv0 := [(0, .ref h_), (1, .int p1), (2, .int p2)]) (by decide +kernel) (Nat.le_of_ble_eq_true rfl) rfl (fun X C => ?_)
  unfold fX11_exampleWord
  refine j_aload C d11_exampleWord_0 0 rfl ?_
  refine j_get C d11_exampleWord_1 fl11_38 0 rfl rfl ?_
  refine j_iload C d11_exampleWord_4 1 rfl ?_
  refine j_callVI0 (As := [.int p1]) C d11_exampleWord_5 mv11_201 (kX8_conflictAt _ _ tc N h_table h_rules h_rules_codes h_table_select h_table_possible g_table_sets g_table_lowest g_table_conflicts c_rules_codes c_rules_count c_table_select c_table_possible p1) ⟨rfl, rfl, Nat.le_of_ble_eq_true rfl, Nat.le_of_ble_eq_true rfl⟩ rfl 3 rfl [3, 1, 2, 4, 5] rfl rfl rfl (Nat.le_of_ble_eq_true rfl) (fun x1 => ?_)
  refine j_istore C d11_exampleWord_8 (by decide) (lv' := [(3, .int x1), (0, .ref h_), (1, .int p1), (2, .int p2)]) rfl ?_
  refine j_iload C d11_exampleWord_9 0 rfl ?_
  refine j_const C d11_exampleWord_10 ?_
  refine j_iload C d11_exampleWord_11 3 rfl ?_
  refine j_iadd C d11_exampleWord_12 ?_
  refine j_callSI0 (As := [.int x1, .int ((2 : Int32) + p2)]) C d11_exampleWord_13 ms11_204 (kX8_partOf _ _ tc x1 ((2 : Int32) + p2)) ⟨rfl, rfl, Nat.le_of_ble_eq_true rfl, Nat.le_of_ble_eq_true rfl⟩ rfl [] rfl rfl rfl (Nat.le_of_ble_eq_true rfl) (fun x2 => ?_)
  refine j_istore C d11_exampleWord_16 (by decide) (lv' := [(4, .int x2), (3, .int x1), (0, .ref h_), (1, .int p1), (2, .int p2)]) rfl ?_
  refine j_aload C d11_exampleWord_18 2 rfl ?_
  refine j_get C d11_exampleWord_19 fl11_70 0 rfl rfl ?_
  refine j_iload C d11_exampleWord_22 0 rfl ?_
  refine j_iload C d11_exampleWord_24 1 rfl ?_
  refine j_const C d11_exampleWord_25 ?_
  refine j_callSI0 (As := [.int x1, .int 1]) C d11_exampleWord_26 ms11_204 (kX8_partOf _ _ tc x1 1) ⟨rfl, rfl, Nat.le_of_ble_eq_true rfl, Nat.le_of_ble_eq_true rfl⟩ rfl [] rfl rfl rfl (Nat.le_of_ble_eq_true rfl) (fun x3 => ?_)
  refine j_callVI (As := [.int x2, .int x3]) C d11_exampleWord_29 mv11_310 (kX0_exampleWord _ _ tc N h_examples h_rules h_rules_codes h_examples_words h_examples_words_costs h_examples_words_highs h_examples_words_lows c_rules_codes c_rules_count c_examples_words_costs c_examples_words_highs c_examples_words_lows c_examples_plainKnown c_examples_exampleKey x2 x3) ⟨rfl, rfl, Nat.le_of_ble_eq_true rfl, Nat.le_of_ble_eq_true rfl⟩ rfl 6 rfl [6, 1, 2, 7, 8, 9, 10] rfl rfl rfl (Nat.le_of_ble_eq_true rfl) (fun u => [(h_, .inr (11, [.ref h_rules, g_history, g_sets, g_setsBefore, .ref h_table, g_failure, g_input, g_parser, .ref h_examples, g_repairer])), (h_rules, .inr (6, [.ref h_rules_codes, .int c_rules_count])), (h_rules_codes, .inl (tc.1, 24, .inl c_rules_codes)), (h_table, .inr (8, [.ref h_rules, g_table_sets, .ref h_table_select, .ref h_table_possible, g_table_lowest, g_table_conflicts])), (h_table_select, .inl (tc.1, 24, .inl c_table_select)), (h_table_possible, .inl (tc.1, 72, .inl c_table_possible)), (h_examples, .inr (0, [.ref h_rules, .ref h_examples_words, .int u.2.2.2.1, .int u.2.2.2.2])), (h_examples_words, .inr (10, [.ref h_examples_words_costs, .ref h_examples_words_highs, .ref h_examples_words_lows])), (h_examples_words_costs, .inl (tc.1, 362, .inl u.1)), (h_examples_words_highs, .inl (tc.2.1, 362, .inr (.inl u.2.1))), (h_examples_words_lows, .inl (tc.2.1, 362, .inr (.inl u.2.2.1)))]) (fun _ => rfl) (fun _ => rfl) (fun _ => rfl) (fun o4 => ?_)
  exact j_iret C d11_exampleWord_32 rfl

theorem d11_exampleLength_0 : jda cX11_exampleLength 0 0 1 := Or.inl ⟨0, by decide +kernel⟩
theorem d11_exampleLength_1 : jdi cX11_exampleLength 1 1 2 := Or.inl ⟨1, by decide +kernel⟩
theorem d11_exampleLength_2 : jd cX11_exampleLength 2 (.invokevirtual 198) 3 5 := by decide +kernel
theorem d11_exampleLength_5 : jdb cX11_exampleLength 5 (.ifCond .eq 12) 12 17 8 := by decide +kernel
theorem d11_exampleLength_8 : jdi cX11_exampleLength 8 2 9 := Or.inl ⟨2, by decide +kernel⟩
theorem d11_exampleLength_9 : jdb cX11_exampleLength 9 (.ifCond .lt 8) 8 17 12 := by decide +kernel
theorem d11_exampleLength_12 : jdi cX11_exampleLength 12 2 13 := Or.inl ⟨2, by decide +kernel⟩
theorem d11_exampleLength_13 : jdk cX11_exampleLength 13 1 14 := Or.inl ⟨1, by decide +kernel⟩
theorem d11_exampleLength_14 : jdb cX11_exampleLength 14 (.if_icmp .le 5) 5 19 17 := by decide +kernel
theorem d11_exampleLength_17 : jdk cX11_exampleLength 17 (-1) 18 := Or.inl ⟨(-1), by decide +kernel⟩
theorem d11_exampleLength_18 : decode cX11_exampleLength 18 = .ok (.ireturn, 1) := by decide +kernel
theorem d11_exampleLength_19 : jda cX11_exampleLength 19 0 20 := Or.inl ⟨0, by decide +kernel⟩
theorem d11_exampleLength_20 : jd cX11_exampleLength 20 (.getfield 70) 3 23 := by decide +kernel
theorem d11_exampleLength_23 : jd cX11_exampleLength 23 (.getfield 179) 3 26 := by decide +kernel
theorem d11_exampleLength_26 : jda cX11_exampleLength 26 0 27 := Or.inl ⟨0, by decide +kernel⟩
theorem d11_exampleLength_27 : jdi cX11_exampleLength 27 1 28 := Or.inl ⟨1, by decide +kernel⟩
theorem d11_exampleLength_28 : jdi cX11_exampleLength 28 2 29 := Or.inl ⟨2, by decide +kernel⟩
theorem d11_exampleLength_29 : jd cX11_exampleLength 29 (.invokevirtual 210) 3 32 := by decide +kernel
theorem d11_exampleLength_32 : jd cX11_exampleLength 32 (.invokevirtual 186) 3 35 := by decide +kernel
theorem d11_exampleLength_35 : decode cX11_exampleLength 35 = .ok (.ireturn, 1) := by decide +kernel
set_option maxHeartbeats 4000000 in
set_option maxRecDepth 100000 in
theorem kX11_exampleLength (l : Launch) (D : va_G) (tc : jTC) (N : Nat) (h_ h_rules h_rules_codes h_table h_table_select h_table_possible h_examples h_examples_words h_examples_words_costs h_examples_words_highs h_examples_words_lows : Nat) (g_history g_sets g_setsBefore g_failure g_input g_parser g_repairer g_table_sets g_table_lowest : Value) (c_rules_codes : (Nat → Int32)) (c_rules_count : Int32) (c_table_select : (Nat → Int32)) (c_table_possible : (Nat → Int32)) (c_table_conflicts : Int32) (c_examples_words_costs : (Nat → Int32)) (c_examples_words_highs : (Nat → Int64)) (c_examples_words_lows : (Nat → Int64)) (c_examples_plainKnown : Int32) (c_examples_exampleKey : Int32) (p1 : Int32) (p2 : Int32) : ctI l D tc yX11_exampleLength (Cond.code yX11_exampleLength cX11_exampleLength 3 (some .int) :: jtb) ({ frames := 8, cells := 0, slots := 0, locals := 189 } : Room) [.ref h_, .int p1, .int p2] [(h_, .inr (11, [.ref h_rules, g_history, g_sets, g_setsBefore, .ref h_table, g_failure, g_input, g_parser, .ref h_examples, g_repairer])), (h_rules, .inr (6, [.ref h_rules_codes, .int c_rules_count])), (h_rules_codes, .inl (tc.1, 24, .inl c_rules_codes)), (h_table, .inr (8, [.ref h_rules, g_table_sets, .ref h_table_select, .ref h_table_possible, g_table_lowest, .int c_table_conflicts])), (h_table_select, .inl (tc.1, 24, .inl c_table_select)), (h_table_possible, .inl (tc.1, 72, .inl c_table_possible)), (h_examples, .inr (0, [.ref h_rules, .ref h_examples_words, .int c_examples_plainKnown, .int c_examples_exampleKey])), (h_examples_words, .inr (10, [.ref h_examples_words_costs, .ref h_examples_words_highs, .ref h_examples_words_lows])), (h_examples_words_costs, .inl (tc.1, 362, .inl c_examples_words_costs)), (h_examples_words_highs, .inl (tc.2.1, 362, .inr (.inl c_examples_words_highs))), (h_examples_words_lows, .inl (tc.2.1, 362, .inr (.inl c_examples_words_lows)))] (fX11_exampleLength N c_rules_codes c_rules_count c_table_select c_table_possible c_table_conflicts c_examples_words_costs c_examples_words_highs c_examples_words_lows c_examples_plainKnown c_examples_exampleKey p1 p2) (fun (u : (Nat → Int32) × (Nat → Int64) × (Nat → Int64) × Int32 × Int32) => [(h_, .inr (11, [.ref h_rules, g_history, g_sets, g_setsBefore, .ref h_table, g_failure, g_input, g_parser, .ref h_examples, g_repairer])), (h_rules, .inr (6, [.ref h_rules_codes, .int c_rules_count])), (h_rules_codes, .inl (tc.1, 24, .inl c_rules_codes)), (h_table, .inr (8, [.ref h_rules, g_table_sets, .ref h_table_select, .ref h_table_possible, g_table_lowest, .int c_table_conflicts])), (h_table_select, .inl (tc.1, 24, .inl c_table_select)), (h_table_possible, .inl (tc.1, 72, .inl c_table_possible)), (h_examples, .inr (0, [.ref h_rules, .ref h_examples_words, .int u.2.2.2.1, .int u.2.2.2.2])), (h_examples_words, .inr (10, [.ref h_examples_words_costs, .ref h_examples_words_highs, .ref h_examples_words_lows])), (h_examples_words_costs, .inl (tc.1, 362, .inl u.1)), (h_examples_words_highs, .inl (tc.2.1, 362, .inr (.inl u.2.1))), (h_examples_words_lows, .inl (tc.2.1, 362, .inr (.inl u.2.2.1)))]) := by
  refine ctI_of (lv0 := [(0, .ref h_), (1, .int p1), (2, .int p2)]) (by decide +kernel) (Nat.le_of_ble_eq_true rfl) rfl (fun X C => ?_)
  unfold fX11_exampleLength
  refine j_aload C d11_exampleLength_0 0 rfl ?_
  refine j_iload C d11_exampleLength_1 1 rfl ?_
  refine j_callVI0 (As := [.int p1]) C d11_exampleLength_2 mv11_198 (kX11_isConflict _ _ tc h_ h_table (.ref h_rules) g_history g_sets g_setsBefore g_failure g_input g_parser (.ref h_examples) g_repairer (.ref h_rules) g_table_sets (.ref h_table_select) (.ref h_table_possible) g_table_lowest c_table_conflicts p1) ⟨rfl, rfl, Nat.le_of_ble_eq_true rfl, Nat.le_of_ble_eq_true rfl⟩ rfl 0 rfl [0, 3] rfl rfl rfl (Nat.le_of_ble_eq_true rfl) (fun x1 => ?_)
  refine j_join 17 (fun v2 => [(h_, .inr (11, [.ref h_rules, g_history, g_sets, g_setsBefore, .ref h_table, g_failure, g_input, g_parser, .ref h_examples, g_repairer])), (h_rules, .inr (6, [.ref h_rules_codes, .int c_rules_count])), (h_rules_codes, .inl (tc.1, 24, .inl c_rules_codes)), (h_table, .inr (8, [.ref h_rules, g_table_sets, .ref h_table_select, .ref h_table_possible, g_table_lowest, .int c_table_conflicts])), (h_table_select, .inl (tc.1, 24, .inl c_table_select)), (h_table_possible, .inl (tc.1, 72, .inl c_table_possible)), (h_examples, .inr (0, [.ref h_rules, .ref h_examples_words, .int c_examples_plainKnown, .int c_examples_exampleKey])), (h_examples_words, .inr (10, [.ref h_examples_words_costs, .ref h_examples_words_highs, .ref h_examples_words_lows])), (h_examples_words_costs, .inl (tc.1, 362, .inl c_examples_words_costs)), (h_examples_words_highs, .inl (tc.2.1, 362, .inr (.inl c_examples_words_highs))), (h_examples_words_lows, .inl (tc.2.1, 362, .inr (.inl c_examples_words_lows)))]) (fun v2 => []) (fun v2 => []) (fun v2 => ?_) (fun k3 hk3 => ?_)
  · refine j_const C d11_exampleLength_17 ?_
    exact j_iret C d11_exampleLength_18 rfl
  · refine j_if_eq C d11_exampleLength_5 ?_ ?_
    · exact j_sub [] rfl (hk3 _)
    · refine j_iload C d11_exampleLength_8 2 rfl ?_
      refine j_if_lt C d11_exampleLength_9 ?_ ?_
      · exact j_sub [] rfl (hk3 _)
      · refine j_iload C d11_exampleLength_12 2 rfl ?_
        refine j_const C d11_exampleLength_13 ?_
        refine j_icmp_le C d11_exampleLength_14 ?_ ?_
        · refine j_aload C d11_exampleLength_19 0 rfl ?_
          refine j_get C d11_exampleLength_20 fl11_70 0 rfl rfl ?_
          refine j_get C d11_exampleLength_23 fl11_179 6 rfl rfl ?_
          refine j_aload C d11_exampleLength_26 0 rfl ?_
          refine j_iload C d11_exampleLength_27 1 rfl ?_
          refine j_iload C d11_exampleLength_28 2 rfl ?_
          refine j_callVI (As := [.int p1, .int p2]) C d11_exampleLength_29 mv11_210 (kX11_exampleWord _ _ tc N h_ h_rules h_rules_codes h_table h_table_select h_table_possible h_examples h_examples_words h_examples_words_costs h_examples_words_highs h_examples_words_lows g_history g_sets g_setsBefore g_failure g_input g_parser g_repairer g_table_sets g_table_lowest (.int c_table_conflicts) c_rules_codes c_rules_count c_table_select c_table_possible c_examples_words_costs c_examples_words_highs c_examples_words_lows c_examples_plainKnown c_examples_exampleKey p1 p2) ⟨rfl, rfl, Nat.le_of_ble_eq_true rfl, Nat.le_of_ble_eq_true rfl⟩ rfl 0 rfl [0, 1, 2, 3, 4, 5, 6, 7, 8, 9, 10] rfl rfl rfl (Nat.le_of_ble_eq_true rfl) (fun u => [(h_, .inr (11, [.ref h_rules, g_history, g_sets, g_setsBefore, .ref h_table, g_failure, g_input, g_parser, .ref h_examples, g_repairer])), (h_rules, .inr (6, [.ref h_rules_codes, .int c_rules_count])), (h_rules_codes, .inl (tc.1, 24, .inl c_rules_codes)), (h_table, .inr (8, [.ref h_rules, g_table_sets, .ref h_table_select, .ref h_table_possible, g_table_lowest, .int c_table_conflicts])), (h_table_select, .inl (tc.1, 24, .inl c_table_select)), (h_table_possible, .inl (tc.1, 72, .inl c_table_possible)), (h_examples, .inr (0, [.ref h_rules, .ref h_examples_words, .int u.2.2.2.1, .int u.2.2.2.2])), (h_examples_words, .inr (10, [.ref h_examples_words_costs, .ref h_examples_words_highs, .ref h_examples_words_lows])), (h_examples_words_costs, .inl (tc.1, 362, .inl u.1)), (h_examples_words_highs, .inl (tc.2.1, 362, .inr (.inl u.2.1))), (h_examples_words_lows, .inl (tc.2.1, 362, .inr (.inl u.2.2.1)))]) (fun _ => rfl) (fun _ => rfl) (fun _ => rfl) (fun o4 => ?_)
          refine j_callVI0 (As := [.int o4.1]) C d11_exampleLength_32 mv11_186 (kX10_lengthOf _ _ tc 362 h_examples_words h_examples_words_costs (.ref h_examples_words_highs) (.ref h_examples_words_lows) o4.2.1 o4.1) ⟨rfl, rfl, Nat.le_of_ble_eq_true rfl, Nat.le_of_ble_eq_true rfl⟩ rfl 7 rfl [7, 8] rfl rfl rfl (Nat.le_of_ble_eq_true rfl) (fun x5 => ?_)
          exact j_iret C d11_exampleLength_35 rfl
        · exact j_sub [] rfl (hk3 _)

