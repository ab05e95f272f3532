theorem d6_lowestFilledOther_0 : jdk cX6_lowestFilledOther 0 0 1 := Or.inl ⟨0, by decide +kernel⟩
theorem d6_lowestFilledOther_1 : jds cX6_lowestFilledOther 1 2 2 := Or.inl ⟨2, by decide +kernel⟩
theorem d6_lowestFilledOther_2 : jdi cX6_lowestFilledOther 2 2 3 := Or.inl ⟨2, by decide +kernel⟩
theorem d6_lowestFilledOther_3 : jda cX6_lowestFilledOther 3 0 4 := Or.inl ⟨0, by decide +kernel⟩
theorem d6_lowestFilledOther_4 : jd cX6_lowestFilledOther 4 (.getfield 37) 3 7 := by decide +kernel
theorem d6_lowestFilledOther_7 : jdb cX6_lowestFilledOther 7 (.if_icmp .ge 41) 41 48 10 := by decide +kernel
theorem d6_lowestFilledOther_10 : jda cX6_lowestFilledOther 10 0 11 := Or.inl ⟨0, by decide +kernel⟩
theorem d6_lowestFilledOther_11 : jd cX6_lowestFilledOther 11 (.getfield 9) 3 14 := by decide +kernel
theorem d6_lowestFilledOther_14 : jdi cX6_lowestFilledOther 14 2 15 := Or.inl ⟨2, by decide +kernel⟩
theorem d6_lowestFilledOther_15 : jd cX6_lowestFilledOther 15 (.iaload) 1 16 := by decide +kernel
theorem d6_lowestFilledOther_16 : jds cX6_lowestFilledOther 16 3 17 := Or.inl ⟨3, by decide +kernel⟩
theorem d6_lowestFilledOther_17 : jdi cX6_lowestFilledOther 17 3 18 := Or.inl ⟨3, by decide +kernel⟩
theorem d6_lowestFilledOther_18 : jdi cX6_lowestFilledOther 18 1 19 := Or.inl ⟨1, by decide +kernel⟩
theorem d6_lowestFilledOther_19 : jd cX6_lowestFilledOther 19 (.invokestatic 47) 3 22 := by decide +kernel
theorem d6_lowestFilledOther_22 : jdb cX6_lowestFilledOther 22 (.ifCond .eq 20) 20 42 25 := by decide +kernel
theorem d6_lowestFilledOther_25 : jdi cX6_lowestFilledOther 25 3 26 := Or.inl ⟨3, by decide +kernel⟩
theorem d6_lowestFilledOther_26 : jd cX6_lowestFilledOther 26 (.invokestatic 51) 3 29 := by decide +kernel
theorem d6_lowestFilledOther_29 : jdb cX6_lowestFilledOther 29 (.ifCond .ne 13) 13 42 32 := by decide +kernel
theorem d6_lowestFilledOther_32 : jdi cX6_lowestFilledOther 32 3 33 := Or.inl ⟨3, by decide +kernel⟩
theorem d6_lowestFilledOther_33 : jd cX6_lowestFilledOther 33 (.invokestatic 19) 3 36 := by decide +kernel
theorem d6_lowestFilledOther_36 : jdk cX6_lowestFilledOther 36 5 37 := Or.inl ⟨5, by decide +kernel⟩
theorem d6_lowestFilledOther_37 : jdb cX6_lowestFilledOther 37 (.if_icmp .ne 5) 5 42 40 := by decide +kernel
theorem d6_lowestFilledOther_40 : jdi cX6_lowestFilledOther 40 2 41 := Or.inl ⟨2, by decide +kernel⟩
theorem d6_lowestFilledOther_41 : decode cX6_lowestFilledOther 41 = .ok (.ireturn, 1) := by decide +kernel
theorem d6_lowestFilledOther_42 : jd cX6_lowestFilledOther 42 (.iinc 2 1) 3 45 := by decide +kernel
theorem d6_lowestFilledOther_45 : jdb cX6_lowestFilledOther 45 (.goto (-43)) (-43) 2 48 := by decide +kernel
theorem d6_lowestFilledOther_48 : jdk cX6_lowestFilledOther 48 (-1) 49 := Or.inl ⟨(-1), by decide +kernel⟩
theorem d6_lowestFilledOther_49 : decode cX6_lowestFilledOther 49 = .ok (.ireturn, 1) := by decide +kernel
set_option maxHeartbeats 4000000 in
set_option maxRecDepth 100000 in
theorem wX6_lowestFilledOther_2 {X : jC} {tc : jTC} (C : jx X cX6_lowestFilledOther 4 RX6 (some .int) tc ({ frames := 2, cells := 0, slots := 0, locals := 41 } : Room)) (h_ h_codes : Nat) (p1 : Int32) (c_codes : (Nat → Int32)) (c_count : Int32) (k2 : (Unit → Option (Int32))) (hk2 : ∀ (v12 : Unit), jo X 4 (0, 0) (jQI0 X [(h_, .inr (6, [.ref h_codes, .int c_count])), (h_codes, .inl (tc.1, 24, .inl c_codes))]) (k2 v12) [(h_, .inr (6, [.ref h_codes, .int c_count])), (h_codes, .inl (tc.1, 24, .inl c_codes))] 48 [] []) (rc4 : Int32 → Option (Int32)) (hrc4 : ∀ (v3 : Int32), jo X 4 (0, 0) (jQI0 X [(h_, .inr (6, [.ref h_codes, .int c_count])), (h_codes, .inl (tc.1, 24, .inl c_codes))]) (rc4 v3) [(h_, .inr (6, [.ref h_codes, .int c_count])), (h_codes, .inl (tc.1, 24, .inl c_codes))] 2 [(0, .ref h_), (1, .int p1), (2, .int v3)] []) (v3 : Int32) : jo X 4 (0, 0) (jQI0 X [(h_, .inr (6, [.ref h_codes, .int c_count])), (h_codes, .inl (tc.1, 24, .inl c_codes))]) (bX6_lowestFilledOther_2 p1 c_codes c_count k2 rc4 v3) [(h_, .inr (6, [.ref h_codes, .int c_count])), (h_codes, .inl (tc.1, 24, .inl c_codes))] 2 [(0, .ref h_), (1, .int p1), (2, .int v3)] [] := by
  unfold bX6_lowestFilledOther_2
  refine j_iload C d6_lowestFilledOther_2 2 rfl ?_
  refine j_aload C d6_lowestFilledOther_3 0 rfl ?_
  refine j_get C d6_lowestFilledOther_4 fl6_37 0 rfl rfl ?_
  refine j_icmp_ge C d6_lowestFilledOther_7 ?_ ?_
  · exact j_sub [] rfl (hk2 _)
  · refine j_aload C d6_lowestFilledOther_10 0 rfl ?_
    refine j_get C d6_lowestFilledOther_11 fl6_9 0 rfl rfl ?_
    refine j_iload C d6_lowestFilledOther_14 2 rfl ?_
    refine j_iald C d6_lowestFilledOther_15 1 rfl (fun x5 => ?_)
    refine j_istore C d6_lowestFilledOther_16 (by decide) (lv' := [(3, .int x5), (0, .ref h_), (1, .int p1), (2, .int v3)]) rfl ?_
    refine j_iload C d6_lowestFilledOther_17 0 rfl ?_
    refine j_iload C d6_lowestFilledOther_18 2 rfl ?_
    refine j_callSI0 (As := [.int x5, .int p1]) C d6_lowestFilledOther_19 ms6_47 (kX6_isOf _ _ tc x5 p1) ⟨rfl, rfl, Nat.le_of_ble_eq_true rfl, Nat.le_of_ble_eq_true rfl⟩ rfl [] rfl rfl rfl (Nat.le_of_ble_eq_true rfl) (fun x6 => ?_)
    refine j_join 42 (fun v7 => [(h_, .inr (6, [.ref h_codes, .int c_count])), (h_codes, .inl (tc.1, 24, .inl c_codes))]) (fun v7 => [(0, .ref h_), (1, .int p1), (2, .int v3)]) (fun v7 => []) (fun v7 => ?_) (fun k9 hk9 => ?_)
    · refine j_iincN C (fun x8 => [(2, .int x8), (0, .ref h_), (1, .int p1)]) d6_lowestFilledOther_42 2 rfl (by decide +kernel) (by decide) (fun _ => rfl) (fun x8 => ?_)
      refine j_goto C d6_lowestFilledOther_45 ?_
      exact j_sub [1, 2, 0] rfl (hrc4 _)
    · refine j_if_eq C d6_lowestFilledOther_22 ?_ ?_
      · exact j_sub [1, 2, 3] rfl (hk9 _)
      · refine j_iload C d6_lowestFilledOther_25 0 rfl ?_
        refine j_callSI0 (As := [.int x5]) C d6_lowestFilledOther_26 ms6_51 (kX6_isRecursive _ _ tc x5) ⟨rfl, rfl, Nat.le_of_ble_eq_true rfl, Nat.le_of_ble_eq_true rfl⟩ rfl [] rfl rfl rfl (Nat.le_of_ble_eq_true rfl) (fun x10 => ?_)
        refine j_if_ne C d6_lowestFilledOther_29 ?_ ?_
        · exact j_sub [1, 2, 3] rfl (hk9 _)
        · refine j_iload C d6_lowestFilledOther_32 0 rfl ?_
          refine j_callSI0 (As := [.int x5]) C d6_lowestFilledOther_33 ms6_19 (kX6_lengthOf _ _ tc x5) ⟨rfl, rfl, Nat.le_of_ble_eq_true rfl, Nat.le_of_ble_eq_true rfl⟩ rfl [] rfl rfl rfl (Nat.le_of_ble_eq_true rfl) (fun x11 => ?_)
          refine j_const C d6_lowestFilledOther_36 ?_
          refine j_icmp_ne C d6_lowestFilledOther_37 ?_ ?_
          · exact j_sub [1, 2, 3] rfl (hk9 _)
          · refine j_iload C d6_lowestFilledOther_40 3 rfl ?_
            exact j_iret0 C d6_lowestFilledOther_41

set_option maxHeartbeats 4000000 in
set_option maxRecDepth 100000 in
theorem kX6_lowestFilledOther (l : Launch) (D : va_G) (tc : jTC) (N : Nat) (h_ h_codes : Nat) (c_codes : (Nat → Int32)) (c_count : Int32) (p1 : Int32) : ctI0 l D tc yX6_lowestFilledOther (Cond.code yX6_lowestFilledOther cX6_lowestFilledOther 4 (some .int) :: jtb) ({ frames := 2, cells := 0, slots := 0, locals := 41 } : Room) [.ref h_, .int p1] [(h_, .inr (6, [.ref h_codes, .int c_count])), (h_codes, .inl (tc.1, 24, .inl c_codes))] (fX6_lowestFilledOther N c_codes c_count p1) := by
  refine ctI0_of (lv0 := [(0, .ref h_), (1, .int p1)]) (by decide +kernel) (Nat.le_of_ble_eq_true rfl) rfl (fun X C => ?_)
  unfold fX6_lowestFilledOther
  refine j_const C d6_lowestFilledOther_0 ?_
  refine j_istore C d6_lowestFilledOther_1 (by decide) (lv' := [(2, .int 0), (0, .ref h_), (1, .int p1)]) rfl ?_
  refine j_join 48 (fun v1 => [(h_, .inr (6, [.ref h_codes, .int c_count])), (h_codes, .inl (tc.1, 24, .inl c_codes))]) (fun v1 => []) (fun v1 => []) (fun v1 => ?_) (fun k2 hk2 => ?_)
  · refine j_const C d6_lowestFilledOther_48 ?_
    exact j_iret0 C d6_lowestFilledOther_49
  · exact j_sub [1, 2, 0] rfl (j_loop (fun v3 => [(h_, .inr (6, [.ref h_codes, .int c_count])), (h_codes, .inl (tc.1, 24, .inl c_codes))]) (fun v3 => [(0, .ref h_), (1, .int p1), (2, .int v3)]) (fun rc4 hrc4 v3 => wX6_lowestFilledOther_2 C h_ h_codes p1 c_codes c_count k2 hk2 rc4 hrc4 v3) N _)

theorem d6_unusedNonterminal_0 : jdk cX6_unusedNonterminal 0 1 1 := Or.inl ⟨1, by decide +kernel⟩
theorem d6_unusedNonterminal_1 : jdk cX6_unusedNonterminal 1 1 2 := Or.inl ⟨1, by decide +kernel⟩
theorem d6_unusedNonterminal_2 : jdi cX6_unusedNonterminal 2 1 3 := Or.inl ⟨1, by decide +kernel⟩
theorem d6_unusedNonterminal_3 : jd cX6_unusedNonterminal 3 (.ishl) 1 4 := by decide +kernel
theorem d6_unusedNonterminal_4 : jd cX6_unusedNonterminal 4 (.ior) 1 5 := by decide +kernel
theorem d6_unusedNonterminal_5 : jds cX6_unusedNonterminal 5 2 6 := Or.inl ⟨2, by decide +kernel⟩
theorem d6_unusedNonterminal_6 : jdk cX6_unusedNonterminal 6 0 7 := Or.inl ⟨0, by decide +kernel⟩
theorem d6_unusedNonterminal_7 : jds cX6_unusedNonterminal 7 3 8 := Or.inl ⟨3, by decide +kernel⟩
theorem d6_unusedNonterminal_8 : jdi cX6_unusedNonterminal 8 3 9 := Or.inl ⟨3, by decide +kernel⟩
theorem d6_unusedNonterminal_9 : jda cX6_unusedNonterminal 9 0 10 := Or.inl ⟨0, by decide +kernel⟩
theorem d6_unusedNonterminal_10 : jd cX6_unusedNonterminal 10 (.getfield 37) 3 13 := by decide +kernel
theorem d6_unusedNonterminal_13 : jdb cX6_unusedNonterminal 13 (.if_icmp .ge 33) 33 46 16 := by decide +kernel
theorem d6_unusedNonterminal_16 : jda cX6_unusedNonterminal 16 0 17 := Or.inl ⟨0, by decide +kernel⟩
theorem d6_unusedNonterminal_17 : jd cX6_unusedNonterminal 17 (.getfield 9) 3 20 := by decide +kernel
theorem d6_unusedNonterminal_20 : jdi cX6_unusedNonterminal 20 3 21 := Or.inl ⟨3, by decide +kernel⟩
theorem d6_unusedNonterminal_21 : jd cX6_unusedNonterminal 21 (.iaload) 1 22 := by decide +kernel
theorem d6_unusedNonterminal_22 : jds cX6_unusedNonterminal 22 4 24 := Or.inr (by decide +kernel)
theorem d6_unusedNonterminal_24 : jdi cX6_unusedNonterminal 24 2 25 := Or.inl ⟨2, by decide +kernel⟩
theorem d6_unusedNonterminal_25 : jdk cX6_unusedNonterminal 25 1 26 := Or.inl ⟨1, by decide +kernel⟩
theorem d6_unusedNonterminal_26 : jdi cX6_unusedNonterminal 26 4 28 := Or.inr (by decide +kernel)
theorem d6_unusedNonterminal_28 : jd cX6_unusedNonterminal 28 (.invokestatic 15) 3 31 := by decide +kernel
theorem d6_unusedNonterminal_31 : jd cX6_unusedNonterminal 31 (.ishl) 1 32 := by decide +kernel
theorem d6_unusedNonterminal_32 : jdi cX6_unusedNonterminal 32 4 34 := Or.inr (by decide +kernel)
theorem d6_unusedNonterminal_34 : jd cX6_unusedNonterminal 34 (.invokestatic 55) 3 37 := by decide +kernel
theorem d6_unusedNonterminal_37 : jd cX6_unusedNonterminal 37 (.ior) 1 38 := by decide +kernel
theorem d6_unusedNonterminal_38 : jd cX6_unusedNonterminal 38 (.ior) 1 39 := by decide +kernel
theorem d6_unusedNonterminal_39 : jds cX6_unusedNonterminal 39 2 40 := Or.inl ⟨2, by decide +kernel⟩
theorem d6_unusedNonterminal_40 : jd cX6_unusedNonterminal 40 (.iinc 3 1) 3 43 := by decide +kernel
theorem d6_unusedNonterminal_43 : jdb cX6_unusedNonterminal 43 (.goto (-35)) (-35) 8 46 := by decide +kernel
theorem d6_unusedNonterminal_46 : jdk cX6_unusedNonterminal 46 0 47 := Or.inl ⟨0, by decide +kernel⟩
theorem d6_unusedNonterminal_47 : jds cX6_unusedNonterminal 47 3 48 := Or.inl ⟨3, by decide +kernel⟩
theorem d6_unusedNonterminal_48 : jdi cX6_unusedNonterminal 48 3 49 := Or.inl ⟨3, by decide +kernel⟩
theorem d6_unusedNonterminal_49 : jdk cX6_unusedNonterminal 49 8 51 := Or.inr (Or.inl ⟨8, by decide +kernel⟩)
theorem d6_unusedNonterminal_51 : jdb cX6_unusedNonterminal 51 (.if_icmp .ge 19) 19 70 54 := by decide +kernel
theorem d6_unusedNonterminal_54 : jdi cX6_unusedNonterminal 54 2 55 := Or.inl ⟨2, by decide +kernel⟩
theorem d6_unusedNonterminal_55 : jdi cX6_unusedNonterminal 55 3 56 := Or.inl ⟨3, by decide +kernel⟩
theorem d6_unusedNonterminal_56 : jd cX6_unusedNonterminal 56 (.invokestatic 58) 3 59 := by decide +kernel
theorem d6_unusedNonterminal_59 : jdb cX6_unusedNonterminal 59 (.ifCond .ne 5) 5 64 62 := by decide +kernel
theorem d6_unusedNonterminal_62 : jdi cX6_unusedNonterminal 62 3 63 := Or.inl ⟨3, by decide +kernel⟩
theorem d6_unusedNonterminal_63 : decode cX6_unusedNonterminal 63 = .ok (.ireturn, 1) := by decide +kernel
theorem d6_unusedNonterminal_64 : jd cX6_unusedNonterminal 64 (.iinc 3 1) 3 67 := by decide +kernel
theorem d6_unusedNonterminal_67 : jdb cX6_unusedNonterminal 67 (.goto (-19)) (-19) 48 70 := by decide +kernel
theorem d6_unusedNonterminal_70 : jdk cX6_unusedNonterminal 70 (-1) 71 := Or.inl ⟨(-1), by decide +kernel⟩
theorem d6_unusedNonterminal_71 : decode cX6_unusedNonterminal 71 = .ok (.ireturn, 1) := by decide +kernel
set_option maxHeartbeats 4000000 in
set_option maxRecDepth 100000 in
theorem wX6_unusedNonterminal_48 {X : jC} {tc : jTC} (C : jx X cX6_unusedNonterminal 5 RX6 (some .int) tc ({ frames := 2, cells := 0, slots := 0, locals := 44 } : Room)) (h_ h_codes : Nat) (c_codes : (Nat → Int32)) (c_count : Int32) (v2 : Int32) (k4 : (Unit → Option (Int32))) (hk4 : ∀ (v9 : Unit), jo X 5 (0, 0) (jQI0 X [(h_, .inr (6, [.ref h_codes, .int c_count])), (h_codes, .inl (tc.1, 24, .inl c_codes))]) (k4 v9) [(h_, .inr (6, [.ref h_codes, .int c_count])), (h_codes, .inl (tc.1, 24, .inl c_codes))] 70 [] []) (rc6 : Int32 → Option (Int32)) (hrc6 : ∀ (v5 : Int32), jo X 5 (0, 0) (jQI0 X [(h_, .inr (6, [.ref h_codes, .int c_count])), (h_codes, .inl (tc.1, 24, .inl c_codes))]) (rc6 v5) [(h_, .inr (6, [.ref h_codes, .int c_count])), (h_codes, .inl (tc.1, 24, .inl c_codes))] 48 [(2, .int v2), (3, .int v5)] []) (v5 : Int32) : jo X 5 (0, 0) (jQI0 X [(h_, .inr (6, [.ref h_codes, .int c_count])), (h_codes, .inl (tc.1, 24, .inl c_codes))]) (bX6_unusedNonterminal_48 v2 k4 rc6 v5) [(h_, .inr (6, [.ref h_codes, .int c_count])), (h_codes, .inl (tc.1, 24, .inl c_codes))] 48 [(2, .int v2), (3, .int v5)] [] := by
  unfold bX6_unusedNonterminal_48
  refine j_iload C d6_unusedNonterminal_48 1 rfl ?_
  refine j_const C d6_unusedNonterminal_49 ?_
  refine j_icmp_ge C d6_unusedNonterminal_51 ?_ ?_
  · exact j_sub [] rfl (hk4 _)
  · refine j_iload C d6_unusedNonterminal_54 0 rfl ?_
    refine j_iload C d6_unusedNonterminal_55 1 rfl ?_
    refine j_callNI0 (As := [.int v2, .int v5]) C d6_unusedNonterminal_56 mn6_58 (kX11_bit _ _ tc v2 v5) ⟨rfl, rfl, Nat.le_of_ble_eq_true rfl, Nat.le_of_ble_eq_true rfl⟩ rfl [] rfl rfl rfl (Nat.le_of_ble_eq_true rfl) (fun x7 => ?_)
    refine j_if_ne C d6_unusedNonterminal_59 ?_ ?_
    · refine j_iincN C (fun x8 => [(3, .int x8), (2, .int v2)]) d6_unusedNonterminal_64 1 rfl (by decide +kernel) (by decide) (fun _ => rfl) (fun x8 => ?_)
      refine j_goto C d6_unusedNonterminal_67 ?_
      exact j_sub [1, 0] rfl (hrc6 _)
    · refine j_iload C d6_unusedNonterminal_62 1 rfl ?_
      exact j_iret0 C d6_unusedNonterminal_63

set_option maxHeartbeats 4000000 in
set_option maxRecDepth 100000 in
theorem wX6_unusedNonterminal_8 {X : jC} {tc : jTC} (C : jx X cX6_unusedNonterminal 5 RX6 (some .int) tc ({ frames := 2, cells := 0, slots := 0, locals := 44 } : Room)) (N : Nat) (h_ h_codes : Nat) (c_codes : (Nat → Int32)) (c_count : Int32) (k10 : (Int32 → Option (Int32))) (hk10 : ∀ (v19 : Int32), jo X 5 (0, 0) (jQI0 X [(h_, .inr (6, [.ref h_codes, .int c_count])), (h_codes, .inl (tc.1, 24, .inl c_codes))]) (k10 v19) [(h_, .inr (6, [.ref h_codes, .int c_count])), (h_codes, .inl (tc.1, 24, .inl c_codes))] 46 [(2, .int v19)] []) (rc13 : Int32 → Int32 → Option (Int32)) (hrc13 : ∀ (v11 : Int32) (v12 : Int32), jo X 5 (0, 0) (jQI0 X [(h_, .inr (6, [.ref h_codes, .int c_count])), (h_codes, .inl (tc.1, 24, .inl c_codes))]) (rc13 v11 v12) [(h_, .inr (6, [.ref h_codes, .int c_count])), (h_codes, .inl (tc.1, 24, .inl c_codes))] 8 [(0, .ref h_), (2, .int v11), (3, .int v12)] []) (v11 : Int32) (v12 : Int32) : jo X 5 (0, 0) (jQI0 X [(h_, .inr (6, [.ref h_codes, .int c_count])), (h_codes, .inl (tc.1, 24, .inl c_codes))]) (bX6_unusedNonterminal_8 N c_codes c_count k10 rc13 v11 v12) [(h_, .inr (6, [.ref h_codes, .int c_count])), (h_codes, .inl (tc.1, 24, .inl c_codes))] 8 [(0, .ref h_), (2, .int v11), (3, .int v12)] [] := by
  unfold bX6_unusedNonterminal_8
  refine j_iload C d6_unusedNonterminal_8 2 rfl ?_
  refine j_aload C d6_unusedNonterminal_9 0 rfl ?_
  refine j_get C d6_unusedNonterminal_10 fl6_37 0 rfl rfl ?_
  refine j_icmp_ge C d6_unusedNonterminal_13 ?_ ?_
  · exact j_sub [1] rfl (hk10 _)
  · refine j_aload C d6_unusedNonterminal_16 0 rfl ?_
    refine j_get C d6_unusedNonterminal_17 fl6_9 0 rfl rfl ?_
    refine j_iload C d6_unusedNonterminal_20 2 rfl ?_
    refine j_iald C d6_unusedNonterminal_21 1 rfl (fun x14 => ?_)
    refine j_istore C d6_unusedNonterminal_22 (by decide) (lv' := [(4, .int x14), (0, .ref h_), (2, .int v11), (3, .int v12)]) rfl ?_
    refine j_iload C d6_unusedNonterminal_24 2 rfl ?_
    refine j_const C d6_unusedNonterminal_25 ?_
    refine j_iload C d6_unusedNonterminal_26 0 rfl ?_
    refine j_callSI0 (As := [.int x14]) C d6_unusedNonterminal_28 ms6_15 (kX6_leftOf _ _ tc x14) ⟨rfl, rfl, Nat.le_of_ble_eq_true rfl, Nat.le_of_ble_eq_true rfl⟩ rfl [] rfl rfl rfl (Nat.le_of_ble_eq_true rfl) (fun x15 => ?_)
    refine j_ishl C d6_unusedNonterminal_31 ?_
    refine j_iload C d6_unusedNonterminal_32 0 rfl ?_
    refine j_callSI0 (As := [.int x14]) C d6_unusedNonterminal_34 ms6_55 (kX6_nonterminalsIn _ _ tc N x14) ⟨rfl, rfl, Nat.le_of_ble_eq_true rfl, Nat.le_of_ble_eq_true rfl⟩ rfl [] rfl rfl rfl (Nat.le_of_ble_eq_true rfl) (fun x16 => ?_)
    refine j_ior C d6_unusedNonterminal_37 ?_
    refine j_ior C d6_unusedNonterminal_38 ?_
    refine j_leti (fun x17 => ?_)
    refine j_istore C d6_unusedNonterminal_39 (by decide) (lv' := [(2, .int x17), (4, .int x14), (0, .ref h_), (3, .int v12)]) rfl ?_
    refine j_iincN C (fun x18 => [(3, .int x18), (2, .int x17), (4, .int x14), (0, .ref h_)]) d6_unusedNonterminal_40 3 rfl (by decide +kernel) (by decide) (fun _ => rfl) (fun x18 => ?_)
    refine j_goto C d6_unusedNonterminal_43 ?_
    exact j_sub [3, 1, 0] rfl (hrc13 _ _)

set_option maxHeartbeats 4000000 in
set_option maxRecDepth 100000 in
theorem kX6_unusedNonterminal (l : Launch) (D : va_G) (tc : jTC) (N : Nat) (h_ h_codes : Nat) (c_codes : (Nat → Int32)) (c_count : Int32) (p1 : Int32) : ctI0 l D tc yX6_unusedNonterminal (Cond.code yX6_unusedNonterminal cX6_unusedNonterminal 5 (some .int) :: jtb) ({ frames := 2, cells := 0, slots := 0, locals := 44 } : Room) [.ref h_, .int p1] [(h_, .inr (6, [.ref h_codes, .int c_count])), (h_codes, .inl (tc.1, 24, .inl c_codes))] (fX6_unusedNonterminal N c_codes c_count p1) := by
  refine ctI0_of (lv0 := [(0, .ref h_), (1, .int p1)]) (by decide +kernel) (Nat.le_of_ble_eq_true rfl) rfl (fun X C => ?_)
  unfold fX6_unusedNonterminal
  refine j_const C d6_unusedNonterminal_0 ?_
  refine j_const C d6_unusedNonterminal_1 ?_
  refine j_iload C d6_unusedNonterminal_2 1 rfl ?_
  refine j_ishl C d6_unusedNonterminal_3 ?_
  refine j_ior C d6_unusedNonterminal_4 ?_
  refine j_leti (fun x1 => ?_)
  refine j_istore C d6_unusedNonterminal_5 (by decide) (lv' := [(2, .int x1), (0, .ref h_), (1, .int p1)]) rfl ?_
  refine j_const C d6_unusedNonterminal_6 ?_
  refine j_istore C d6_unusedNonterminal_7 (by decide) (lv' := [(3, .int 0), (2, .int x1), (0, .ref h_), (1, .int p1)]) rfl ?_
  refine j_join 46 (fun v2 => [(h_, .inr (6, [.ref h_codes, .int c_count])), (h_codes, .inl (tc.1, 24, .inl c_codes))]) (fun v2 => [(2, .int v2)]) (fun v2 => []) (fun v2 => ?_) (fun k10 hk10 => ?_)
  · refine j_const C d6_unusedNonterminal_46 ?_
    refine j_istore C d6_unusedNonterminal_47 (by decide) (lv' := [(3, .int 0), (2, .int v2)]) rfl ?_
    refine j_join 70 (fun v3 => [(h_, .inr (6, [.ref h_codes, .int c_count])), (h_codes, .inl (tc.1, 24, .inl c_codes))]) (fun v3 => []) (fun v3 => []) (fun v3 => ?_) (fun k4 hk4 => ?_)
    · refine j_const C d6_unusedNonterminal_70 ?_
      exact j_iret0 C d6_unusedNonterminal_71
    · exact j_sub [1, 0] rfl (j_loop (fun v5 => [(h_, .inr (6, [.ref h_codes, .int c_count])), (h_codes, .inl (tc.1, 24, .inl c_codes))]) (fun v5 => [(2, .int v2), (3, .int v5)]) (fun rc6 hrc6 v5 => wX6_unusedNonterminal_48 C h_ h_codes c_codes c_count v2 k4 hk4 rc6 hrc6 v5) N _)
  · exact j_sub [2, 1, 0] rfl (j_loop2 (fun v11 v12 => [(h_, .inr (6, [.ref h_codes, .int c_count])), (h_codes, .inl (tc.1, 24, .inl c_codes))]) (fun v11 v12 => [(0, .ref h_), (2, .int v11), (3, .int v12)]) (fun rc13 hrc13 v11 v12 => wX6_unusedNonterminal_8 C N h_ h_codes c_codes c_count k10 hk10 rc13 hrc13 v11 v12) N _ _)

theorem d6_prefixSharedAfter_0 : jdk cX6_prefixSharedAfter 0 0 1 := Or.inl ⟨0, by decide +kernel⟩
theorem d6_prefixSharedAfter_1 : jds cX6_prefixSharedAfter 1 3 2 := Or.inl ⟨3, by decide +kernel⟩
theorem d6_prefixSharedAfter_2 : jdi cX6_prefixSharedAfter 2 1 3 := Or.inl ⟨1, by decide +kernel⟩
theorem d6_prefixSharedAfter_3 : jdk cX6_prefixSharedAfter 3 1 4 := Or.inl ⟨1, by decide +kernel⟩
theorem d6_prefixSharedAfter_4 : jd cX6_prefixSharedAfter 4 (.iadd) 1 5 := by decide +kernel
theorem d6_prefixSharedAfter_5 : jds cX6_prefixSharedAfter 5 4 7 := Or.inr (by decide +kernel)
theorem d6_prefixSharedAfter_7 : jdi cX6_prefixSharedAfter 7 4 9 := Or.inr (by decide +kernel)
theorem d6_prefixSharedAfter_9 : jda cX6_prefixSharedAfter 9 0 10 := Or.inl ⟨0, by decide +kernel⟩
theorem d6_prefixSharedAfter_10 : jd cX6_prefixSharedAfter 10 (.getfield 37) 3 13 := by decide +kernel
theorem d6_prefixSharedAfter_13 : jdb cX6_prefixSharedAfter 13 (.if_icmp .ge 57) 57 70 16 := by decide +kernel
theorem d6_prefixSharedAfter_16 : jda cX6_prefixSharedAfter 16 0 17 := Or.inl ⟨0, by decide +kernel⟩
theorem d6_prefixSharedAfter_17 : jd cX6_prefixSharedAfter 17 (.getfield 9) 3 20 := by decide +kernel
theorem d6_prefixSharedAfter_20 : jdi cX6_prefixSharedAfter 20 1 21 := Or.inl ⟨1, by decide +kernel⟩
theorem d6_prefixSharedAfter_21 : jd cX6_prefixSharedAfter 21 (.iaload) 1 22 := by decide +kernel
theorem d6_prefixSharedAfter_22 : jdi cX6_prefixSharedAfter 22 2 23 := Or.inl ⟨2, by decide +kernel⟩
theorem d6_prefixSharedAfter_23 : jd cX6_prefixSharedAfter 23 (.invokestatic 47) 3 26 := by decide +kernel
theorem d6_prefixSharedAfter_26 : jdb cX6_prefixSharedAfter 26 (.ifCond .eq 44) 44 70 29 := by decide +kernel
theorem d6_prefixSharedAfter_29 : jda cX6_prefixSharedAfter 29 0 30 := Or.inl ⟨0, by decide +kernel⟩
theorem d6_prefixSharedAfter_30 : jd cX6_prefixSharedAfter 30 (.getfield 9) 3 33 := by decide +kernel
theorem d6_prefixSharedAfter_33 : jdi cX6_prefixSharedAfter 33 4 35 := Or.inr (by decide +kernel)
theorem d6_prefixSharedAfter_35 : jd cX6_prefixSharedAfter 35 (.iaload) 1 36 := by decide +kernel
theorem d6_prefixSharedAfter_36 : jdi cX6_prefixSharedAfter 36 2 37 := Or.inl ⟨2, by decide +kernel⟩
theorem d6_prefixSharedAfter_37 : jd cX6_prefixSharedAfter 37 (.invokestatic 47) 3 40 := by decide +kernel
theorem d6_prefixSharedAfter_40 : jdb cX6_prefixSharedAfter 40 (.ifCond .eq 24) 24 64 43 := by decide +kernel
theorem d6_prefixSharedAfter_43 : jdi cX6_prefixSharedAfter 43 3 44 := Or.inl ⟨3, by decide +kernel⟩
theorem d6_prefixSharedAfter_44 : jda cX6_prefixSharedAfter 44 0 45 := Or.inl ⟨0, by decide +kernel⟩
theorem d6_prefixSharedAfter_45 : jd cX6_prefixSharedAfter 45 (.getfield 9) 3 48 := by decide +kernel
theorem d6_prefixSharedAfter_48 : jdi cX6_prefixSharedAfter 48 1 49 := Or.inl ⟨1, by decide +kernel⟩
theorem d6_prefixSharedAfter_49 : jd cX6_prefixSharedAfter 49 (.iaload) 1 50 := by decide +kernel
theorem d6_prefixSharedAfter_50 : jda cX6_prefixSharedAfter 50 0 51 := Or.inl ⟨0, by decide +kernel⟩
theorem d6_prefixSharedAfter_51 : jd cX6_prefixSharedAfter 51 (.getfield 9) 3 54 := by decide +kernel
theorem d6_prefixSharedAfter_54 : jdi cX6_prefixSharedAfter 54 4 56 := Or.inr (by decide +kernel)
theorem d6_prefixSharedAfter_56 : jd cX6_prefixSharedAfter 56 (.iaload) 1 57 := by decide +kernel
theorem d6_prefixSharedAfter_57 : jd cX6_prefixSharedAfter 57 (.invokestatic 67) 3 60 := by decide +kernel
theorem d6_prefixSharedAfter_60 : jd cX6_prefixSharedAfter 60 (.invokestatic 64) 3 63 := by decide +kernel
theorem d6_prefixSharedAfter_63 : jds cX6_prefixSharedAfter 63 3 64 := Or.inl ⟨3, by decide +kernel⟩
theorem d6_prefixSharedAfter_64 : jd cX6_prefixSharedAfter 64 (.iinc 4 1) 3 67 := by decide +kernel
theorem d6_prefixSharedAfter_67 : jdb cX6_prefixSharedAfter 67 (.goto (-60)) (-60) 7 70 := by decide +kernel
theorem d6_prefixSharedAfter_70 : jdi cX6_prefixSharedAfter 70 3 71 := Or.inl ⟨3, by decide +kernel⟩
theorem d6_prefixSharedAfter_71 : decode cX6_prefixSharedAfter 71 = .ok (.ireturn, 1) := by decide +kernel
set_option maxHeartbeats 4000000 in
set_option maxRecDepth 100000 in
theorem wX6_prefixSharedAfter_7 {X : jC} {tc : jTC} (C : jx X cX6_prefixSharedAfter 5 RX6 (some .int) tc ({ frames := 2, cells := 0, slots := 0, locals := 63 } : Room)) (N : Nat) (h_ h_codes : Nat) (p1 : Int32) (p2 : Int32) (c_codes : (Nat → Int32)) (c_count : Int32) (k3 : (Int32 → Option (Int32))) (hk3 : ∀ (v18 : Int32), jo X 5 (0, 0) (jQI0 X [(h_, .inr (6, [.ref h_codes, .int c_count])), (h_codes, .inl (tc.1, 24, .inl c_codes))]) (k3 v18) [(h_, .inr (6, [.ref h_codes, .int c_count])), (h_codes, .inl (tc.1, 24, .inl c_codes))] 70 [(3, .int v18)] []) (rc6 : Int32 → Int32 → Option (Int32)) (hrc6 : ∀ (v4 : Int32) (v5 : Int32), jo X 5 (0, 0) (jQI0 X [(h_, .inr (6, [.ref h_codes, .int c_count])), (h_codes, .inl (tc.1, 24, .inl c_codes))]) (rc6 v4 v5) [(h_, .inr (6, [.ref h_codes, .int c_count])), (h_codes, .inl (tc.1, 24, .inl c_codes))] 7 [(0, .ref h_), (1, .int p1), (2, .int p2), (3, .int v4), (4, .int v5)] []) (v4 : Int32) (v5 : Int32) : jo X 5 (0, 0) (jQI0 X [(h_, .inr (6, [.ref h_codes, .int c_count])), (h_codes, .inl (tc.1, 24, .inl c_codes))]) (bX6_prefixSharedAfter_7 N p1 p2 c_codes c_count k3 rc6 v4 v5) [(h_, .inr (6, [.ref h_codes, .int c_count])), (h_codes, .inl (tc.1, 24, .inl c_codes))] 7 [(0, .ref h_), (1, .int p1), (2, .int p2), (3, .int v4), (4, .int v5)] [] := by
  unfold bX6_prefixSharedAfter_7
  refine j_iload C d6_prefixSharedAfter_7 4 rfl ?_
  refine j_aload C d6_prefixSharedAfter_9 0 rfl ?_
  refine j_get C d6_prefixSharedAfter_10 fl6_37 0 rfl rfl ?_
  refine j_icmp_ge C d6_prefixSharedAfter_13 ?_ ?_
  · exact j_sub [3] rfl (hk3 _)
  · refine j_aload C d6_prefixSharedAfter_16 0 rfl ?_
    refine j_get C d6_prefixSharedAfter_17 fl6_9 0 rfl rfl ?_
    refine j_iload C d6_prefixSharedAfter_20 1 rfl ?_
    refine j_iald C d6_prefixSharedAfter_21 1 rfl (fun x7 => ?_)
    refine j_iload C d6_prefixSharedAfter_22 2 rfl ?_
    refine j_callSI0 (As := [.int x7, .int p2]) C d6_prefixSharedAfter_23 ms6_47 (kX6_isOf _ _ tc x7 p2) ⟨rfl, rfl, Nat.le_of_ble_eq_true rfl, Nat.le_of_ble_eq_true rfl⟩ rfl [] rfl rfl rfl (Nat.le_of_ble_eq_true rfl) (fun x8 => ?_)
    refine j_if_eq C d6_prefixSharedAfter_26 ?_ ?_
    · exact j_sub [3] rfl (hk3 _)
    · refine j_aload C d6_prefixSharedAfter_29 0 rfl ?_
      refine j_get C d6_prefixSharedAfter_30 fl6_9 0 rfl rfl ?_
      refine j_iload C d6_prefixSharedAfter_33 4 rfl ?_
      refine j_iald C d6_prefixSharedAfter_35 1 rfl (fun x9 => ?_)
      refine j_iload C d6_prefixSharedAfter_36 2 rfl ?_
      refine j_callSI0 (As := [.int x9, .int p2]) C d6_prefixSharedAfter_37 ms6_47 (kX6_isOf _ _ tc x9 p2) ⟨rfl, rfl, Nat.le_of_ble_eq_true rfl, Nat.le_of_ble_eq_true rfl⟩ rfl [] rfl rfl rfl (Nat.le_of_ble_eq_true rfl) (fun x10 => ?_)
      refine j_join 64 (fun v11 => [(h_, .inr (6, [.ref h_codes, .int c_count])), (h_codes, .inl (tc.1, 24, .inl c_codes))]) (fun v11 => [(0, .ref h_), (1, .int p1), (2, .int p2), (3, .int v11), (4, .int v5)]) (fun v11 => []) (fun v11 => ?_) (fun k13 hk13 => ?_)
      · refine j_iincN C (fun x12 => [(4, .int x12), (0, .ref h_), (1, .int p1), (2, .int p2), (3, .int v11)]) d6_prefixSharedAfter_64 4 rfl (by decide +kernel) (by decide) (fun _ => rfl) (fun x12 => ?_)
        refine j_goto C d6_prefixSharedAfter_67 ?_
        exact j_sub [1, 2, 3, 4, 0] rfl (hrc6 _ _)
      · refine j_if_eq C d6_prefixSharedAfter_40 ?_ ?_
        · exact hk13 _
        · refine j_iload C d6_prefixSharedAfter_43 3 rfl ?_
          refine j_aload C d6_prefixSharedAfter_44 0 rfl ?_
          refine j_get C d6_prefixSharedAfter_45 fl6_9 0 rfl rfl ?_
          refine j_iload C d6_prefixSharedAfter_48 1 rfl ?_
          refine j_iald C d6_prefixSharedAfter_49 1 rfl (fun x14 => ?_)
          refine j_aload C d6_prefixSharedAfter_50 0 rfl ?_
          refine j_get C d6_prefixSharedAfter_51 fl6_9 0 rfl rfl ?_
          refine j_iload C d6_prefixSharedAfter_54 4 rfl ?_
          refine j_iald C d6_prefixSharedAfter_56 1 rfl (fun x15 => ?_)
          refine j_callSI0 (As := [.int x14, .int x15]) C d6_prefixSharedAfter_57 ms6_67 (kX6_commonPrefix _ _ tc N x14 x15) ⟨rfl, rfl, Nat.le_of_ble_eq_true rfl, Nat.le_of_ble_eq_true rfl⟩ rfl [] rfl rfl rfl (Nat.le_of_ble_eq_true rfl) (fun x16 => ?_)
          refine j_mmax C d6_prefixSharedAfter_60 kj6_64 rfl ⟨Nat.le_of_ble_eq_true rfl, Nat.le_of_ble_eq_true rfl⟩ (Nat.le_of_ble_eq_true rfl) ?_
          refine j_leti (fun x17 => ?_)
          refine j_istore C d6_prefixSharedAfter_63 (by decide) (lv' := [(3, .int x17), (0, .ref h_), (1, .int p1), (2, .int p2), (4, .int v5)]) rfl ?_
          exact j_sub [1, 2, 3, 0, 4] rfl (hk13 _)

set_option maxHeartbeats 4000000 in
set_option maxRecDepth 100000 in
theorem kX6_prefixSharedAfter (l : Launch) (D : va_G) (tc : jTC) (N : Nat) (h_ h_codes : Nat) (c_codes : (Nat → Int32)) (c_count : Int32) (p1 : Int32) (p2 : Int32) : ctI0 l D tc yX6_prefixSharedAfter (Cond.code yX6_prefixSharedAfter cX6_prefixSharedAfter 5 (some .int) :: jtb) ({ frames := 2, cells := 0, slots := 0, locals := 63 } : Room) [.ref h_, .int p1, .int p2] [(h_, .inr (6, [.ref h_codes, .int c_count])), (h_codes, .inl (tc.1, 24, .inl c_codes))] (fX6_prefixSharedAfter N c_codes c_count p1 p2) := by
  refine ctI0_of (lv0 := [(0, .ref h_), (1, .int p1), (2, .int p2)]) (by decide +kernel) (Nat.le_of_ble_eq_true rfl) rfl (fun X C => ?_)
  unfold fX6_prefixSharedAfter
  refine j_const C d6_prefixSharedAfter_0 ?_
  refine j_istore C d6_prefixSharedAfter_1 (by decide) (lv' := [(3, .int 0), (0, .ref h_), (1, .int p1), (2, .int p2)]) rfl ?_
  refine j_iload C d6_prefixSharedAfter_2 2 rfl ?_
  refine j_const C d6_prefixSharedAfter_3 ?_
  refine j_iadd C d6_prefixSharedAfter_4 ?_
  refine j_leti (fun x1 => ?_)
  refine j_istore C d6_prefixSharedAfter_5 (by decide) (lv' := [(4, .int x1), (3, .int 0), (0, .ref h_), (1, .int p1), (2, .int p2)]) rfl ?_
  refine j_join 70 (fun v2 => [(h_, .inr (6, [.ref h_codes, .int c_count])), (h_codes, .inl (tc.1, 24, .inl c_codes))]) (fun v2 => [(3, .int v2)]) (fun v2 => []) (fun v2 => ?_) (fun k3 hk3 => ?_)
  · refine j_iload C d6_prefixSharedAfter_70 0 rfl ?_
    exact j_iret0 C d6_prefixSharedAfter_71
  · exact j_sub [2, 3, 4, 1, 0] rfl (j_loop2 (fun v4 v5 => [(h_, .inr (6, [.ref h_codes, .int c_count])), (h_codes, .inl (tc.1, 24, .inl c_codes))]) (fun v4 v5 => [(0, .ref h_), (1, .int p1), (2, .int p2), (3, .int v4), (4, .int v5)]) (fun rc6 hrc6 v4 v5 => wX6_prefixSharedAfter_7 C N h_ h_codes p1 p2 c_codes c_count k3 hk3 rc6 hrc6 v4 v5) N _ _)

theorem d6_longestCommonPrefix_0 : jdk cX6_longestCommonPrefix 0 0 1 := Or.inl ⟨0, by decide +kernel⟩
theorem d6_longestCommonPrefix_1 : jds cX6_longestCommonPrefix 1 2 2 := Or.inl ⟨2, by decide +kernel⟩
theorem d6_longestCommonPrefix_2 : jdk cX6_longestCommonPrefix 2 0 3 := Or.inl ⟨0, by decide +kernel⟩
theorem d6_longestCommonPrefix_3 : jds cX6_longestCommonPrefix 3 3 4 := Or.inl ⟨3, by decide +kernel⟩
theorem d6_longestCommonPrefix_4 : jdi cX6_longestCommonPrefix 4 3 5 := Or.inl ⟨3, by decide +kernel⟩
theorem d6_longestCommonPrefix_5 : jda cX6_longestCommonPrefix 5 0 6 := Or.inl ⟨0, by decide +kernel⟩
theorem d6_longestCommonPrefix_6 : jd cX6_longestCommonPrefix 6 (.getfield 37) 3 9 := by decide +kernel
theorem d6_longestCommonPrefix_9 : jdb cX6_longestCommonPrefix 9 (.if_icmp .ge 20) 20 29 12 := by decide +kernel
theorem d6_longestCommonPrefix_12 : jdi cX6_longestCommonPrefix 12 2 13 := Or.inl ⟨2, by decide +kernel⟩
theorem d6_longestCommonPrefix_13 : jda cX6_longestCommonPrefix 13 0 14 := Or.inl ⟨0, by decide +kernel⟩
theorem d6_longestCommonPrefix_14 : jdi cX6_longestCommonPrefix 14 3 15 := Or.inl ⟨3, by decide +kernel⟩
theorem d6_longestCommonPrefix_15 : jdi cX6_longestCommonPrefix 15 1 16 := Or.inl ⟨1, by decide +kernel⟩
theorem d6_longestCommonPrefix_16 : jd cX6_longestCommonPrefix 16 (.invokevirtual 61) 3 19 := by decide +kernel
theorem d6_longestCommonPrefix_19 : jd cX6_longestCommonPrefix 19 (.invokestatic 64) 3 22 := by decide +kernel
theorem d6_longestCommonPrefix_22 : jds cX6_longestCommonPrefix 22 2 23 := Or.inl ⟨2, by decide +kernel⟩
theorem d6_longestCommonPrefix_23 : jd cX6_longestCommonPrefix 23 (.iinc 3 1) 3 26 := by decide +kernel
theorem d6_longestCommonPrefix_26 : jdb cX6_longestCommonPrefix 26 (.goto (-22)) (-22) 4 29 := by decide +kernel
theorem d6_longestCommonPrefix_29 : jdi cX6_longestCommonPrefix 29 2 30 := Or.inl ⟨2, by decide +kernel⟩
theorem d6_longestCommonPrefix_30 : decode cX6_longestCommonPrefix 30 = .ok (.ireturn, 1) := by decide +kernel
set_option maxHeartbeats 4000000 in
set_option maxRecDepth 100000 in
theorem wX6_longestCommonPrefix_4 {X : jC} {tc : jTC} (C : jx X cX6_longestCommonPrefix 4 RX6 (some .int) tc ({ frames := 3, cells := 0, slots := 0, locals := 87 } : Room)) (N : Nat) (h_ h_codes : Nat) (p1 : Int32) (c_codes : (Nat → Int32)) (c_count : Int32) (k2 : (Int32 → Option (Int32))) (hk2 : ∀ (v9 : Int32), jo X 4 (0, 0) (jQI0 X [(h_, .inr (6, [.ref h_codes, .int c_count])), (h_codes, .inl (tc.1, 24, .inl c_codes))]) (k2 v9) [(h_, .inr (6, [.ref h_codes, .int c_count])), (h_codes, .inl (tc.1, 24, .inl c_codes))] 29 [(2, .int v9)] []) (rc5 : Int32 → Int32 → Option (Int32)) (hrc5 : ∀ (v3 : Int32) (v4 : Int32), jo X 4 (0, 0) (jQI0 X [(h_, .inr (6, [.ref h_codes, .int c_count])), (h_codes, .inl (tc.1, 24, .inl c_codes))]) (rc5 v3 v4) [(h_, .inr (6, [.ref h_codes, .int c_count])), (h_codes, .inl (tc.1, 24, .inl c_codes))] 4 [(0, .ref h_), (1, .int p1), (2, .int v3), (3, .int v4)] []) (v3 : Int32) (v4 : Int32) : jo X 4 (0, 0) (jQI0 X [(h_, .inr (6, [.ref h_codes, .int c_count])), (h_codes, .inl (tc.1, 24, .inl c_codes))]) (bX6_longestCommonPrefix_4 N p1 c_codes c_count k2 rc5 v3 v4) [(h_, .inr (6, [.ref h_codes, .int c_count])), (h_codes, .inl (tc.1, 24, .inl c_codes))] 4 [(0, .ref h_), (1, .int p1), (2, .int v3), (3, .int v4)] [] := by
  unfold bX6_longestCommonPrefix_4
  refine j_iload C d6_longestCommonPrefix_4 3 rfl ?_
  refine j_aload C d6_longestCommonPrefix_5 0 rfl ?_
  refine j_get C d6_longestCommonPrefix_6 fl6_37 0 rfl rfl ?_
  refine j_icmp_ge C d6_longestCommonPrefix_9 ?_ ?_
  · exact j_sub [2] rfl (hk2 _)
  · refine j_iload C d6_longestCommonPrefix_12 2 rfl ?_
    refine j_aload C d6_longestCommonPrefix_13 0 rfl ?_
    refine j_iload C d6_longestCommonPrefix_14 3 rfl ?_
    refine j_iload C d6_longestCommonPrefix_15 1 rfl ?_
    refine j_callVI0 (As := [.int v4, .int p1]) C d6_longestCommonPrefix_16 mv6_61 (kX6_prefixSharedAfter _ _ tc N h_ h_codes c_codes c_count v4 p1) ⟨rfl, rfl, Nat.le_of_ble_eq_true rfl, Nat.le_of_ble_eq_true rfl⟩ rfl 0 rfl [0, 1] rfl rfl rfl (Nat.le_of_ble_eq_true rfl) (fun x6 => ?_)
    refine j_mmax C d6_longestCommonPrefix_19 kj6_64 rfl ⟨Nat.le_of_ble_eq_true rfl, Nat.le_of_ble_eq_true rfl⟩ (Nat.le_of_ble_eq_true rfl) ?_
    refine j_leti (fun x7 => ?_)
    refine j_istore C d6_longestCommonPrefix_22 (by decide) (lv' := [(2, .int x7), (0, .ref h_), (1, .int p1), (3, .int v4)]) rfl ?_
    refine j_iincN C (fun x8 => [(3, .int x8), (2, .int x7), (0, .ref h_), (1, .int p1)]) d6_longestCommonPrefix_23 3 rfl (by decide +kernel) (by decide) (fun _ => rfl) (fun x8 => ?_)
    refine j_goto C d6_longestCommonPrefix_26 ?_
    exact j_sub [2, 3, 1, 0] rfl (hrc5 _ _)

set_option maxHeartbeats 4000000 in
set_option maxRecDepth 100000 in
theorem kX6_longestCommonPrefix (l : Launch) (D : va_G) (tc : jTC) (N : Nat) (h_ h_codes : Nat) (c_codes : (Nat → Int32)) (c_count : Int32) (p1 : Int32) : ctI0 l D tc yX6_longestCommonPrefix (Cond.code yX6_longestCommonPrefix cX6_longestCommonPrefix 4 (some .int) :: jtb) ({ frames := 3, cells := 0, slots := 0, locals := 87 } : Room) [.ref h_, .int p1] [(h_, .inr (6, [.ref h_codes, .int c_count])), (h_codes, .inl (tc.1, 24, .inl c_codes))] (fX6_longestCommonPrefix N c_codes c_count p1) := by
  refine ctI0_of (lv0 := [(0, .ref h_), (1, .int p1)]) (by decide +kernel) (Nat.le_of_ble_eq_true rfl) rfl (fun X C => ?_)
  unfold fX6_longestCommonPrefix
  refine j_const C d6_longestCommonPrefix_0 ?_
  refine j_istore C d6_longestCommonPrefix_1 (by decide) (lv' := [(2, .int 0), (0, .ref h_), (1, .int p1)]) rfl ?_
  refine j_const C d6_longestCommonPrefix_2 ?_
  refine j_istore C d6_longestCommonPrefix_3 (by decide) (lv' := [(3, .int 0), (2, .int 0), (0, .ref h_), (1, .int p1)]) rfl ?_
  refine j_join 29 (fun v1 => [(h_, .inr (6, [.ref h_codes, .int c_count])), (h_codes, .inl (tc.1, 24, .inl c_codes))]) (fun v1 => [(2, .int v1)]) (fun v1 => []) (fun v1 => ?_) (fun k2 hk2 => ?_)
  · refine j_iload C d6_longestCommonPrefix_29 0 rfl ?_
    exact j_iret0 C d6_longestCommonPrefix_30
  · exact j_sub [2, 3, 1, 0] rfl (j_loop2 (fun v3 v4 => [(h_, .inr (6, [.ref h_codes, .int c_count])), (h_codes, .inl (tc.1, 24, .inl c_codes))]) (fun v3 v4 => [(0, .ref h_), (1, .int p1), (2, .int v3), (3, .int v4)]) (fun rc5 hrc5 v3 v4 => wX6_longestCommonPrefix_4 C N h_ h_codes p1 c_codes c_count k2 hk2 rc5 hrc5 v3 v4) N _ _)

theorem d6_leadWithPrefix_0 : jdk cX6_leadWithPrefix 0 0 1 := Or.inl ⟨0, by decide +kernel⟩
theorem d6_leadWithPrefix_1 : jds cX6_leadWithPrefix 1 3 2 := Or.inl ⟨3, by decide +kernel⟩
theorem d6_leadWithPrefix_2 : jdi cX6_leadWithPrefix 2 3 3 := Or.inl ⟨3, by decide +kernel⟩
theorem d6_leadWithPrefix_3 : jda cX6_leadWithPrefix 3 0 4 := Or.inl ⟨0, by decide +kernel⟩
theorem d6_leadWithPrefix_4 : jd cX6_leadWithPrefix 4 (.getfield 37) 3 7 := by decide +kernel
theorem d6_leadWithPrefix_7 : jdb cX6_leadWithPrefix 7 (.if_icmp .ge 26) 26 33 10 := by decide +kernel
theorem d6_leadWithPrefix_10 : jda cX6_leadWithPrefix 10 0 11 := Or.inl ⟨0, by decide +kernel⟩
theorem d6_leadWithPrefix_11 : jdi cX6_leadWithPrefix 11 3 12 := Or.inl ⟨3, by decide +kernel⟩
theorem d6_leadWithPrefix_12 : jdi cX6_leadWithPrefix 12 1 13 := Or.inl ⟨1, by decide +kernel⟩
theorem d6_leadWithPrefix_13 : jd cX6_leadWithPrefix 13 (.invokevirtual 61) 3 16 := by decide +kernel
theorem d6_leadWithPrefix_16 : jdi cX6_leadWithPrefix 16 2 17 := Or.inl ⟨2, by decide +kernel⟩
theorem d6_leadWithPrefix_17 : jdb cX6_leadWithPrefix 17 (.if_icmp .ne 10) 10 27 20 := by decide +kernel
theorem d6_leadWithPrefix_20 : jda cX6_leadWithPrefix 20 0 21 := Or.inl ⟨0, by decide +kernel⟩
theorem d6_leadWithPrefix_21 : jd cX6_leadWithPrefix 21 (.getfield 9) 3 24 := by decide +kernel
theorem d6_leadWithPrefix_24 : jdi cX6_leadWithPrefix 24 3 25 := Or.inl ⟨3, by decide +kernel⟩
theorem d6_leadWithPrefix_25 : jd cX6_leadWithPrefix 25 (.iaload) 1 26 := by decide +kernel
theorem d6_leadWithPrefix_26 : decode cX6_leadWithPrefix 26 = .ok (.ireturn, 1) := by decide +kernel
theorem d6_leadWithPrefix_27 : jd cX6_leadWithPrefix 27 (.iinc 3 1) 3 30 := by decide +kernel
theorem d6_leadWithPrefix_30 : jdb cX6_leadWithPrefix 30 (.goto (-28)) (-28) 2 33 := by decide +kernel
theorem d6_leadWithPrefix_33 : jdk cX6_leadWithPrefix 33 (-1) 34 := Or.inl ⟨(-1), by decide +kernel⟩
theorem d6_leadWithPrefix_34 : decode cX6_leadWithPrefix 34 = .ok (.ireturn, 1) := by decide +kernel
set_option maxHeartbeats 4000000 in
set_option maxRecDepth 100000 in
theorem wX6_leadWithPrefix_2 {X : jC} {tc : jTC} (C : jx X cX6_leadWithPrefix 4 RX6 (some .int) tc ({ frames := 3, cells := 0, slots := 0, locals := 87 } : Room)) (N : Nat) (h_ h_codes : Nat) (p1 : Int32) (p2 : Int32) (c_codes : (Nat → Int32)) (c_count : Int32) (k2 : (Unit → Option (Int32))) (hk2 : ∀ (v8 : Unit), jo X 4 (0, 0) (jQI0 X [(h_, .inr (6, [.ref h_codes, .int c_count])), (h_codes, .inl (tc.1, 24, .inl c_codes))]) (k2 v8) [(h_, .inr (6, [.ref h_codes, .int c_count])), (h_codes, .inl (tc.1, 24, .inl c_codes))] 33 [] []) (rc4 : Int32 → Option (Int32)) (hrc4 : ∀ (v3 : Int32), jo X 4 (0, 0) (jQI0 X [(h_, .inr (6, [.ref h_codes, .int c_count])), (h_codes, .inl (tc.1, 24, .inl c_codes))]) (rc4 v3) [(h_, .inr (6, [.ref h_codes, .int c_count])), (h_codes, .inl (tc.1, 24, .inl c_codes))] 2 [(0, .ref h_), (1, .int p1), (2, .int p2), (3, .int v3)] []) (v3 : Int32) : jo X 4 (0, 0) (jQI0 X [(h_, .inr (6, [.ref h_codes, .int c_count])), (h_codes, .inl (tc.1, 24, .inl c_codes))]) (bX6_leadWithPrefix_2 N p1 p2 c_codes c_count k2 rc4 v3) [(h_, .inr (6, [.ref h_codes, .int c_count])), (h_codes, .inl (tc.1, 24, .inl c_codes))] 2 [(0, .ref h_), (1, .int p1), (2, .int p2), (3, .int v3)] [] := by
  unfold bX6_leadWithPrefix_2
  refine j_iload C d6_leadWithPrefix_2 3 rfl ?_
  refine j_aload C d6_leadWithPrefix_3 0 rfl ?_
  refine j_get C d6_leadWithPrefix_4 fl6_37 0 rfl rfl ?_
  refine j_icmp_ge C d6_leadWithPrefix_7 ?_ ?_
  · exact j_sub [] rfl (hk2 _)
  · refine j_aload C d6_leadWithPrefix_10 0 rfl ?_
    refine j_iload C d6_leadWithPrefix_11 3 rfl ?_
    refine j_iload C d6_leadWithPrefix_12 1 rfl ?_
    refine j_callVI0 (As := [.int v3, .int p1]) C d6_leadWithPrefix_13 mv6_61 (kX6_prefixSharedAfter _ _ tc N h_ h_codes c_codes c_count v3 p1) ⟨rfl, rfl, Nat.le_of_ble_eq_true rfl, Nat.le_of_ble_eq_true rfl⟩ rfl 0 rfl [0, 1] rfl rfl rfl (Nat.le_of_ble_eq_true rfl) (fun x5 => ?_)
    refine j_iload C d6_leadWithPrefix_16 2 rfl ?_
    refine j_icmp_ne C d6_leadWithPrefix_17 ?_ ?_
    · refine j_iincN C (fun x6 => [(3, .int x6), (0, .ref h_), (1, .int p1), (2, .int p2)]) d6_leadWithPrefix_27 3 rfl (by decide +kernel) (by decide) (fun _ => rfl) (fun x6 => ?_)
      refine j_goto C d6_leadWithPrefix_30 ?_
      exact j_sub [1, 2, 3, 0] rfl (hrc4 _)
    · refine j_aload C d6_leadWithPrefix_20 0 rfl ?_
      refine j_get C d6_leadWithPrefix_21 fl6_9 0 rfl rfl ?_
      refine j_iload C d6_leadWithPrefix_24 3 rfl ?_
      refine j_iald C d6_leadWithPrefix_25 1 rfl (fun x7 => ?_)
      exact j_iret0 C d6_leadWithPrefix_26

set_option maxHeartbeats 4000000 in
set_option maxRecDepth 100000 in
theorem kX6_leadWithPrefix (l : Launch) (D : va_G) (tc : jTC) (N : Nat) (h_ h_codes : Nat) (c_codes : (Nat → Int32)) (c_count : Int32) (p1 : Int32) (p2 : Int32) : ctI0 l D tc yX6_leadWithPrefix (Cond.code yX6_leadWithPrefix cX6_leadWithPrefix 4 (some .int) :: jtb) ({ frames := 3, cells := 0, slots := 0, locals := 87 } : Room) [.ref h_, .int p1, .int p2] [(h_, .inr (6, [.ref h_codes, .int c_count])), (h_codes, .inl (tc.1, 24, .inl c_codes))] (fX6_leadWithPrefix N c_codes c_count p1 p2) := by
  refine ctI0_of (lv0 := [(0, .ref h_), (1, .int p1), (2, .int p2)]) (by decide +kernel) (Nat.le_of_ble_eq_true rfl) rfl (fun X C => ?_)
  unfold fX6_leadWithPrefix
  refine j_const C d6_leadWithPrefix_0 ?_
  refine j_istore C d6_leadWithPrefix_1 (by decide) (lv' := [(3, .int 0), (0, .ref h_), (1, .int p1), (2, .int p2)]) rfl ?_
  refine j_join 33 (fun v1 => [(h_, .inr (6, [.ref h_codes, .int c_count])), (h_codes, .inl (tc.1, 24, .inl c_codes))]) (fun v1 => []) (fun v1 => []) (fun v1 => ?_) (fun k2 hk2 => ?_)
  · refine j_const C d6_leadWithPrefix_33 ?_
    exact j_iret0 C d6_leadWithPrefix_34
  · exact j_sub [1, 2, 3, 0] rfl (j_loop (fun v3 => [(h_, .inr (6, [.ref h_codes, .int c_count])), (h_codes, .inl (tc.1, 24, .inl c_codes))]) (fun v3 => [(0, .ref h_), (1, .int p1), (2, .int p2), (3, .int v3)]) (fun rc4 hrc4 v3 => wX6_leadWithPrefix_2 C N h_ h_codes p1 p2 c_codes c_count k2 hk2 rc4 hrc4 v3) N _)

theorem d6_factor_0 : jda cX6_factor 0 1 1 := Or.inl ⟨1, by decide +kernel⟩
theorem d6_factor_1 : jdi cX6_factor 1 2 2 := Or.inl ⟨2, by decide +kernel⟩
theorem d6_factor_2 : jdi cX6_factor 2 3 3 := Or.inl ⟨3, by decide +kernel⟩
theorem d6_factor_3 : jd cX6_factor 3 (.invokevirtual 70) 3 6 := by decide +kernel
theorem d6_factor_6 : jds cX6_factor 6 5 8 := Or.inr (by decide +kernel)
theorem d6_factor_8 : jdi cX6_factor 8 5 10 := Or.inr (by decide +kernel)
theorem d6_factor_10 : jdb cX6_factor 10 (.ifCond .ge 4) 4 14 13 := by decide +kernel
theorem d6_factor_13 : decode cX6_factor 13 = .ok (.return_, 1) := by decide +kernel
theorem d6_factor_14 : jda cX6_factor 14 0 15 := Or.inl ⟨0, by decide +kernel⟩
theorem d6_factor_15 : jd cX6_factor 15 (.invokevirtual 73) 3 18 := by decide +kernel
theorem d6_factor_18 : jdk cX6_factor 18 0 19 := Or.inl ⟨0, by decide +kernel⟩
theorem d6_factor_19 : jds cX6_factor 19 6 21 := Or.inr (by decide +kernel)
theorem d6_factor_21 : jdi cX6_factor 21 6 23 := Or.inr (by decide +kernel)
theorem d6_factor_23 : jda cX6_factor 23 1 24 := Or.inl ⟨1, by decide +kernel⟩
theorem d6_factor_24 : jd cX6_factor 24 (.getfield 37) 3 27 := by decide +kernel
theorem d6_factor_27 : jdb cX6_factor 27 (.if_icmp .ge 72) 72 99 30 := by decide +kernel
theorem d6_factor_30 : jda cX6_factor 30 1 31 := Or.inl ⟨1, by decide +kernel⟩
theorem d6_factor_31 : jd cX6_factor 31 (.getfield 9) 3 34 := by decide +kernel
theorem d6_factor_34 : jdi cX6_factor 34 6 36 := Or.inr (by decide +kernel)
theorem d6_factor_36 : jd cX6_factor 36 (.iaload) 1 37 := by decide +kernel
theorem d6_factor_37 : jds cX6_factor 37 7 39 := Or.inr (by decide +kernel)
theorem d6_factor_39 : jdi cX6_factor 39 7 41 := Or.inr (by decide +kernel)
theorem d6_factor_41 : jdi cX6_factor 41 5 43 := Or.inr (by decide +kernel)
theorem d6_factor_43 : jdb cX6_factor 43 (.if_icmp .ne 24) 24 67 46 := by decide +kernel
theorem d6_factor_46 : jda cX6_factor 46 0 47 := Or.inl ⟨0, by decide +kernel⟩
theorem d6_factor_47 : jdi cX6_factor 47 7 49 := Or.inr (by decide +kernel)
theorem d6_factor_49 : jdi cX6_factor 49 3 50 := Or.inl ⟨3, by decide +kernel⟩
theorem d6_factor_50 : jd cX6_factor 50 (.invokestatic 76) 3 53 := by decide +kernel
theorem d6_factor_53 : jdk cX6_factor 53 10 55 := Or.inr (Or.inl ⟨10, by decide +kernel⟩)
theorem d6_factor_55 : jdi cX6_factor 55 4 57 := Or.inr (by decide +kernel)
theorem d6_factor_57 : jd cX6_factor 57 (.iadd) 1 58 := by decide +kernel
theorem d6_factor_58 : jd cX6_factor 58 (.invokestatic 26) 3 61 := by decide +kernel
theorem d6_factor_61 : jd cX6_factor 61 (.invokevirtual 79) 3 64 := by decide +kernel
theorem d6_factor_64 : jdb cX6_factor 64 (.goto 29) 29 93 67 := by decide +kernel
theorem d6_factor_67 : jdi cX6_factor 67 7 69 := Or.inr (by decide +kernel)
theorem d6_factor_69 : jdi cX6_factor 69 2 70 := Or.inl ⟨2, by decide +kernel⟩
theorem d6_factor_70 : jd cX6_factor 70 (.invokestatic 47) 3 73 := by decide +kernel
theorem d6_factor_73 : jdb cX6_factor 73 (.ifCond .eq 14) 14 87 76 := by decide +kernel
theorem d6_factor_76 : jdi cX6_factor 76 7 78 := Or.inr (by decide +kernel)
theorem d6_factor_78 : jdi cX6_factor 78 5 80 := Or.inr (by decide +kernel)
theorem d6_factor_80 : jd cX6_factor 80 (.invokestatic 67) 3 83 := by decide +kernel
theorem d6_factor_83 : jdi cX6_factor 83 3 84 := Or.inl ⟨3, by decide +kernel⟩
theorem d6_factor_84 : jdb cX6_factor 84 (.if_icmp .ge 9) 9 93 87 := by decide +kernel
theorem d6_factor_87 : jda cX6_factor 87 0 88 := Or.inl ⟨0, by decide +kernel⟩
theorem d6_factor_88 : jdi cX6_factor 88 7 90 := Or.inr (by decide +kernel)
theorem d6_factor_90 : jd cX6_factor 90 (.invokevirtual 79) 3 93 := by decide +kernel
theorem d6_factor_93 : jd cX6_factor 93 (.iinc 6 1) 3 96 := by decide +kernel
theorem d6_factor_96 : jdb cX6_factor 96 (.goto (-75)) (-75) 21 99 := by decide +kernel
theorem d6_factor_99 : jdk cX6_factor 99 0 100 := Or.inl ⟨0, by decide +kernel⟩
theorem d6_factor_100 : jds cX6_factor 100 6 102 := Or.inr (by decide +kernel)
theorem d6_factor_102 : jdi cX6_factor 102 6 104 := Or.inr (by decide +kernel)
theorem d6_factor_104 : jda cX6_factor 104 1 105 := Or.inl ⟨1, by decide +kernel⟩
theorem d6_factor_105 : jd cX6_factor 105 (.getfield 37) 3 108 := by decide +kernel
theorem d6_factor_108 : jdb cX6_factor 108 (.if_icmp .ge 50) 50 158 111 := by decide +kernel
theorem d6_factor_111 : jda cX6_factor 111 1 112 := Or.inl ⟨1, by decide +kernel⟩
theorem d6_factor_112 : jd cX6_factor 112 (.getfield 9) 3 115 := by decide +kernel
theorem d6_factor_115 : jdi cX6_factor 115 6 117 := Or.inr (by decide +kernel)
theorem d6_factor_117 : jd cX6_factor 117 (.iaload) 1 118 := by decide +kernel
theorem d6_factor_118 : jds cX6_factor 118 7 120 := Or.inr (by decide +kernel)
theorem d6_factor_120 : jdi cX6_factor 120 7 122 := Or.inr (by decide +kernel)
theorem d6_factor_122 : jdi cX6_factor 122 2 123 := Or.inl ⟨2, by decide +kernel⟩
theorem d6_factor_123 : jd cX6_factor 123 (.invokestatic 47) 3 126 := by decide +kernel
theorem d6_factor_126 : jdb cX6_factor 126 (.ifCond .eq 26) 26 152 129 := by decide +kernel
theorem d6_factor_129 : jdi cX6_factor 129 7 131 := Or.inr (by decide +kernel)
theorem d6_factor_131 : jdi cX6_factor 131 5 133 := Or.inr (by decide +kernel)
theorem d6_factor_133 : jd cX6_factor 133 (.invokestatic 67) 3 136 := by decide +kernel
theorem d6_factor_136 : jdi cX6_factor 136 3 137 := Or.inl ⟨3, by decide +kernel⟩
theorem d6_factor_137 : jdb cX6_factor 137 (.if_icmp .lt 15) 15 152 140 := by decide +kernel
theorem d6_factor_140 : jda cX6_factor 140 0 141 := Or.inl ⟨0, by decide +kernel⟩
theorem d6_factor_141 : jdi cX6_factor 141 7 143 := Or.inr (by decide +kernel)
theorem d6_factor_143 : jdi cX6_factor 143 3 144 := Or.inl ⟨3, by decide +kernel⟩
theorem d6_factor_144 : jdi cX6_factor 144 4 146 := Or.inr (by decide +kernel)
theorem d6_factor_146 : jd cX6_factor 146 (.invokestatic 83) 3 149 := by decide +kernel
theorem d6_factor_149 : jd cX6_factor 149 (.invokevirtual 79) 3 152 := by decide +kernel
theorem d6_factor_152 : jd cX6_factor 152 (.iinc 6 1) 3 155 := by decide +kernel
theorem d6_factor_155 : jdb cX6_factor 155 (.goto (-53)) (-53) 102 158 := by decide +kernel
theorem d6_factor_158 : decode cX6_factor 158 = .ok (.return_, 1) := by decide +kernel
set_option maxHeartbeats 4000000 in
set_option maxRecDepth 100000 in
theorem wX6_factor_102 {X : jC} {tc : jTC} (C : jx X cX6_factor 8 RX6 none tc ({ frames := 4, cells := 0, slots := 0, locals := 110 } : Room)) (N : Nat) (h_ h_codes h_p1 h_p1_codes : Nat) (p2 : Int32) (p3 : Int32) (p4 : Int32) (c_p1_codes : (Nat → Int32)) (c_p1_count : Int32) (x1 : Int32) (k7 : ((Nat → Int32) → Int32 → Option ((Nat → Int32) × Int32))) (hk7 : ∀ (v22 : (Nat → Int32)) (v23 : Int32), jo X 8 (0, 0) (jQV X (fun (u : (Nat → Int32) × Int32) => [(h_, .inr (6, [.ref h_codes, .int u.2])), (h_codes, .inl (tc.1, 24, .inl u.1)), (h_p1, .inr (6, [.ref h_p1_codes, .int c_p1_count])), (h_p1_codes, .inl (tc.1, 24, .inl c_p1_codes))])) (k7 v22 v23) [(h_, .inr (6, [.ref h_codes, .int v23])), (h_codes, .inl (tc.1, 24, .inl v22)), (h_p1, .inr (6, [.ref h_p1_codes, .int c_p1_count])), (h_p1_codes, .inl (tc.1, 24, .inl c_p1_codes))] 158 [] []) (rc11 : Int32 → (Nat → Int32) → Int32 → Option ((Nat → Int32) × Int32)) (hrc11 : ∀ (v8 : Int32) (v9 : (Nat → Int32)) (v10 : Int32), jo X 8 (0, 0) (jQV X (fun (u : (Nat → Int32) × Int32) => [(h_, .inr (6, [.ref h_codes, .int u.2])), (h_codes, .inl (tc.1, 24, .inl u.1)), (h_p1, .inr (6, [.ref h_p1_codes, .int c_p1_count])), (h_p1_codes, .inl (tc.1, 24, .inl c_p1_codes))])) (rc11 v8 v9 v10) [(h_, .inr (6, [.ref h_codes, .int v10])), (h_codes, .inl (tc.1, 24, .inl v9)), (h_p1, .inr (6, [.ref h_p1_codes, .int c_p1_count])), (h_p1_codes, .inl (tc.1, 24, .inl c_p1_codes))] 102 [(0, .ref h_), (1, .ref h_p1), (2, .int p2), (3, .int p3), (4, .int p4), (5, .int x1), (6, .int v8)] []) (v8 : Int32) (v9 : (Nat → Int32)) (v10 : Int32) : jo X 8 (0, 0) (jQV X (fun (u : (Nat → Int32) × Int32) => [(h_, .inr (6, [.ref h_codes, .int u.2])), (h_codes, .inl (tc.1, 24, .inl u.1)), (h_p1, .inr (6, [.ref h_p1_codes, .int c_p1_count])), (h_p1_codes, .inl (tc.1, 24, .inl c_p1_codes))])) (bX6_factor_102 N p2 p3 p4 c_p1_codes c_p1_count x1 k7 rc11 v8 v9 v10) [(h_, .inr (6, [.ref h_codes, .int v10])), (h_codes, .inl (tc.1, 24, .inl v9)), (h_p1, .inr (6, [.ref h_p1_codes, .int c_p1_count])), (h_p1_codes, .inl (tc.1, 24, .inl c_p1_codes))] 102 [(0, .ref h_), (1, .ref h_p1), (2, .int p2), (3, .int p3), (4, .int p4), (5, .int x1), (6, .int v8)] [] := by
  unfold bX6_factor_102
  refine j_iload C d6_factor_102 6 rfl ?_
  refine j_aload C d6_factor_104 1 rfl ?_
  refine j_get C d6_factor_105 fl6_37 2 rfl rfl ?_
  refine j_icmp_ge C d6_factor_108 ?_ ?_
  · exact j_sub [] rfl (hk7 _ _)
  · refine j_aload C d6_factor_111 1 rfl ?_
    refine j_get C d6_factor_112 fl6_9 2 rfl rfl ?_
    refine j_iload C d6_factor_115 6 rfl ?_
    refine j_iald C d6_factor_117 3 rfl (fun x12 => ?_)
    refine j_istore C d6_factor_118 (by decide) (lv' := [(7, .int x12), (0, .ref h_), (1, .ref h_p1), (2, .int p2), (3, .int p3), (4, .int p4), (5, .int x1), (6, .int v8)]) rfl ?_
    refine j_iload C d6_factor_120 0 rfl ?_
    refine j_iload C d6_factor_122 3 rfl ?_
    refine j_callSI0 (As := [.int x12, .int p2]) C d6_factor_123 ms6_47 (kX6_isOf _ _ tc x12 p2) ⟨rfl, rfl, Nat.le_of_ble_eq_true rfl, Nat.le_of_ble_eq_true rfl⟩ rfl [] rfl rfl rfl (Nat.le_of_ble_eq_true rfl) (fun x13 => ?_)
    refine j_join2 152 (fun v14 v15 => [(h_, .inr (6, [.ref h_codes, .int v15])), (h_codes, .inl (tc.1, 24, .inl v14)), (h_p1, .inr (6, [.ref h_p1_codes, .int c_p1_count])), (h_p1_codes, .inl (tc.1, 24, .inl c_p1_codes))]) (fun v14 v15 => [(0, .ref h_), (1, .ref h_p1), (2, .int p2), (3, .int p3), (4, .int p4), (5, .int x1), (6, .int v8)]) (fun v14 v15 => []) (fun v14 v15 => ?_) (fun k17 hk17 => ?_)
    · refine j_iincN C (fun x16 => [(6, .int x16), (0, .ref h_), (1, .ref h_p1), (2, .int p2), (3, .int p3), (4, .int p4), (5, .int x1)]) d6_factor_152 6 rfl (by decide +kernel) (by decide) (fun _ => rfl) (fun x16 => ?_)
      refine j_goto C d6_factor_155 ?_
      exact j_sub [1, 2, 3, 4, 5, 6, 0] rfl (hrc11 _ _ _)
    · refine j_if_eq C d6_factor_126 ?_ ?_
      · exact j_sub [1, 2, 3, 4, 5, 6, 7] rfl (hk17 _ _)
      · refine j_iload C d6_factor_129 0 rfl ?_
        refine j_iload C d6_factor_131 6 rfl ?_
        refine j_callSI0 (As := [.int x12, .int x1]) C d6_factor_133 ms6_67 (kX6_commonPrefix _ _ tc N x12 x1) ⟨rfl, rfl, Nat.le_of_ble_eq_true rfl, Nat.le_of_ble_eq_true rfl⟩ rfl [] rfl rfl rfl (Nat.le_of_ble_eq_true rfl) (fun x18 => ?_)
        refine j_iload C d6_factor_136 4 rfl ?_
        refine j_icmp_lt C d6_factor_137 ?_ ?_
        · exact j_sub [1, 2, 3, 4, 5, 6, 7] rfl (hk17 _ _)
        · refine j_aload C d6_factor_140 1 rfl ?_
          refine j_iload C d6_factor_141 0 rfl ?_
          refine j_iload C d6_factor_143 4 rfl ?_
          refine j_iload C d6_factor_144 5 rfl ?_
          refine j_callSI0 (As := [.int x12, .int p3, .int p4]) C d6_factor_146 ms6_83 (kX6_suffixOf _ _ tc N x12 p3 p4) ⟨rfl, rfl, Nat.le_of_ble_eq_true rfl, Nat.le_of_ble_eq_true rfl⟩ rfl [] rfl rfl rfl (Nat.le_of_ble_eq_true rfl) (fun x19 => ?_)
          refine j_callVV2 (As := [.int x19]) C d6_factor_149 mv6_79 (kX6_add _ _ tc h_ h_codes v9 v10 x19) ⟨rfl, rfl, Nat.le_of_ble_eq_true rfl, Nat.le_of_ble_eq_true rfl⟩ rfl 0 rfl [0, 1] rfl rfl rfl (Nat.le_of_ble_eq_true rfl) (fun o20 o21 => [(h_, .inr (6, [.ref h_codes, .int o21])), (h_codes, .inl (tc.1, 24, .inl o20)), (h_p1, .inr (6, [.ref h_p1_codes, .int c_p1_count])), (h_p1_codes, .inl (tc.1, 24, .inl c_p1_codes))]) [(true, 0), (true, 1), (false, 2), (false, 3)] (fun _ => rfl) (by decide +kernel) (fun o20 o21 => ?_)
          exact j_sub [1, 2, 3, 4, 5, 6, 7] rfl (hk17 _ _)

set_option maxHeartbeats 4000000 in
set_option maxRecDepth 100000 in
theorem wX6_factor_21 {X : jC} {tc : jTC} (C : jx X cX6_factor 8 RX6 none tc ({ frames := 4, cells := 0, slots := 0, locals := 110 } : Room)) (N : Nat) (h_ h_codes h_p1 h_p1_codes : Nat) (p2 : Int32) (p3 : Int32) (p4 : Int32) (c_p1_codes : (Nat → Int32)) (c_p1_count : Int32) (x1 : Int32) (k24 : ((Nat → Int32) → Int32 → Option ((Nat → Int32) × Int32))) (hk24 : ∀ (v44 : (Nat → Int32)) (v45 : Int32), jo X 8 (0, 0) (jQV X (fun (u : (Nat → Int32) × Int32) => [(h_, .inr (6, [.ref h_codes, .int u.2])), (h_codes, .inl (tc.1, 24, .inl u.1)), (h_p1, .inr (6, [.ref h_p1_codes, .int c_p1_count])), (h_p1_codes, .inl (tc.1, 24, .inl c_p1_codes))])) (k24 v44 v45) [(h_, .inr (6, [.ref h_codes, .int v45])), (h_codes, .inl (tc.1, 24, .inl v44)), (h_p1, .inr (6, [.ref h_p1_codes, .int c_p1_count])), (h_p1_codes, .inl (tc.1, 24, .inl c_p1_codes))] 99 [(0, .ref h_), (1, .ref h_p1), (2, .int p2), (3, .int p3), (4, .int p4), (5, .int x1)] []) (rc28 : Int32 → (Nat → Int32) → Int32 → Option ((Nat → Int32) × Int32)) (hrc28 : ∀ (v25 : Int32) (v26 : (Nat → Int32)) (v27 : Int32), jo X 8 (0, 0) (jQV X (fun (u : (Nat → Int32) × Int32) => [(h_, .inr (6, [.ref h_codes, .int u.2])), (h_codes, .inl (tc.1, 24, .inl u.1)), (h_p1, .inr (6, [.ref h_p1_codes, .int c_p1_count])), (h_p1_codes, .inl (tc.1, 24, .inl c_p1_codes))])) (rc28 v25 v26 v27) [(h_, .inr (6, [.ref h_codes, .int v27])), (h_codes, .inl (tc.1, 24, .inl v26)), (h_p1, .inr (6, [.ref h_p1_codes, .int c_p1_count])), (h_p1_codes, .inl (tc.1, 24, .inl c_p1_codes))] 21 [(0, .ref h_), (1, .ref h_p1), (2, .int p2), (3, .int p3), (4, .int p4), (5, .int x1), (6, .int v25)] []) (v25 : Int32) (v26 : (Nat → Int32)) (v27 : Int32) : jo X 8 (0, 0) (jQV X (fun (u : (Nat → Int32) × Int32) => [(h_, .inr (6, [.ref h_codes, .int u.2])), (h_codes, .inl (tc.1, 24, .inl u.1)), (h_p1, .inr (6, [.ref h_p1_codes, .int c_p1_count])), (h_p1_codes, .inl (tc.1, 24, .inl c_p1_codes))])) (bX6_factor_21 N p2 p3 p4 c_p1_codes c_p1_count x1 k24 rc28 v25 v26 v27) [(h_, .inr (6, [.ref h_codes, .int v27])), (h_codes, .inl (tc.1, 24, .inl v26)), (h_p1, .inr (6, [.ref h_p1_codes, .int c_p1_count])), (h_p1_codes, .inl (tc.1, 24, .inl c_p1_codes))] 21 [(0, .ref h_), (1, .ref h_p1), (2, .int p2), (3, .int p3), (4, .int p4), (5, .int x1), (6, .int v25)] [] := by
  unfold bX6_factor_21
  refine j_iload C d6_factor_21 6 rfl ?_
  refine j_aload C d6_factor_23 1 rfl ?_
  refine j_get C d6_factor_24 fl6_37 2 rfl rfl ?_
  refine j_icmp_ge C d6_factor_27 ?_ ?_
  · exact j_sub [0, 1, 2, 3, 4, 5] rfl (hk24 _ _)
  · refine j_aload C d6_factor_30 1 rfl ?_
    refine j_get C d6_factor_31 fl6_9 2 rfl rfl ?_
    refine j_iload C d6_factor_34 6 rfl ?_
    refine j_iald C d6_factor_36 3 rfl (fun x29 => ?_)
    refine j_istore C d6_factor_37 (by decide) (lv' := [(7, .int x29), (0, .ref h_), (1, .ref h_p1), (2, .int p2), (3, .int p3), (4, .int p4), (5, .int x1), (6, .int v25)]) rfl ?_
    refine j_iload C d6_factor_39 0 rfl ?_
    refine j_iload C d6_factor_41 6 rfl ?_
    refine j_join2 93 (fun v30 v31 => [(h_, .inr (6, [.ref h_codes, .int v31])), (h_codes, .inl (tc.1, 24, .inl v30)), (h_p1, .inr (6, [.ref h_p1_codes, .int c_p1_count])), (h_p1_codes, .inl (tc.1, 24, .inl c_p1_codes))]) (fun v30 v31 => [(0, .ref h_), (1, .ref h_p1), (2, .int p2), (3, .int p3), (4, .int p4), (5, .int x1), (6, .int v25)]) (fun v30 v31 => []) (fun v30 v31 => ?_) (fun k33 hk33 => ?_)
    · refine j_iincN C (fun x32 => [(6, .int x32), (0, .ref h_), (1, .ref h_p1), (2, .int p2), (3, .int p3), (4, .int p4), (5, .int x1)]) d6_factor_93 6 rfl (by decide +kernel) (by decide) (fun _ => rfl) (fun x32 => ?_)
      refine j_goto C d6_factor_96 ?_
      exact j_sub [1, 2, 3, 4, 5, 6, 0] rfl (hrc28 _ _ _)
    · refine j_icmp_ne C d6_factor_43 ?_ ?_
      · refine j_iload C d6_factor_67 0 rfl ?_
        refine j_iload C d6_factor_69 3 rfl ?_
        refine j_callSI0 (As := [.int x29, .int p2]) C d6_factor_70 ms6_47 (kX6_isOf _ _ tc x29 p2) ⟨rfl, rfl, Nat.le_of_ble_eq_true rfl, Nat.le_of_ble_eq_true rfl⟩ rfl [] rfl rfl rfl (Nat.le_of_ble_eq_true rfl) (fun x34 => ?_)
        refine j_join 87 (fun v35 => [(h_, .inr (6, [.ref h_codes, .int v27])), (h_codes, .inl (tc.1, 24, .inl v26)), (h_p1, .inr (6, [.ref h_p1_codes, .int c_p1_count])), (h_p1_codes, .inl (tc.1, 24, .inl c_p1_codes))]) (fun v35 => [(0, .ref h_), (1, .ref h_p1), (2, .int p2), (3, .int p3), (4, .int p4), (5, .int x1), (6, .int v25), (7, .int x29)]) (fun v35 => []) (fun v35 => ?_) (fun k38 hk38 => ?_)
        · refine j_aload C d6_factor_87 0 rfl ?_
          refine j_iload C d6_factor_88 7 rfl ?_
          refine j_callVV2 (As := [.int x29]) C d6_factor_90 mv6_79 (kX6_add _ _ tc h_ h_codes v26 v27 x29) ⟨rfl, rfl, Nat.le_of_ble_eq_true rfl, Nat.le_of_ble_eq_true rfl⟩ rfl 0 rfl [0, 1] rfl rfl rfl (Nat.le_of_ble_eq_true rfl) (fun o36 o37 => [(h_, .inr (6, [.ref h_codes, .int o37])), (h_codes, .inl (tc.1, 24, .inl o36)), (h_p1, .inr (6, [.ref h_p1_codes, .int c_p1_count])), (h_p1_codes, .inl (tc.1, 24, .inl c_p1_codes))]) [(true, 0), (true, 1), (false, 2), (false, 3)] (fun _ => rfl) (by decide +kernel) (fun o36 o37 => ?_)
          exact j_sub [0, 1, 2, 3, 4, 5, 6] rfl (hk33 _ _)
        · refine j_if_eq C d6_factor_73 ?_ ?_
          · exact j_sub [1, 2, 3, 4, 5, 6, 7, 0] rfl (hk38 _)
          · refine j_iload C d6_factor_76 0 rfl ?_
            refine j_iload C d6_factor_78 6 rfl ?_
            refine j_callSI0 (As := [.int x29, .int x1]) C d6_factor_80 ms6_67 (kX6_commonPrefix _ _ tc N x29 x1) ⟨rfl, rfl, Nat.le_of_ble_eq_true rfl, Nat.le_of_ble_eq_true rfl⟩ rfl [] rfl rfl rfl (Nat.le_of_ble_eq_true rfl) (fun x39 => ?_)
            refine j_iload C d6_factor_83 4 rfl ?_
            refine j_icmp_ge C d6_factor_84 ?_ ?_
            · exact j_sub [1, 2, 3, 4, 5, 6, 7] rfl (hk33 _ _)
            · exact j_sub [1, 2, 3, 4, 5, 6, 7, 0] rfl (hk38 _)
      · refine j_aload C d6_factor_46 1 rfl ?_
        refine j_iload C d6_factor_47 0 rfl ?_
        refine j_iload C d6_factor_49 4 rfl ?_
        refine j_callSI0 (As := [.int x29, .int p3]) C d6_factor_50 ms6_76 (kX6_prefixOf _ _ tc N x29 p3) ⟨rfl, rfl, Nat.le_of_ble_eq_true rfl, Nat.le_of_ble_eq_true rfl⟩ rfl [] rfl rfl rfl (Nat.le_of_ble_eq_true rfl) (fun x40 => ?_)
        refine j_const C d6_factor_53 ?_
        refine j_iload C d6_factor_55 5 rfl ?_
        refine j_iadd C d6_factor_57 ?_
        refine j_callSI0 (As := [.int x40, .int ((10 : Int32) + p4)]) C d6_factor_58 ms6_26 (kX6_extended _ _ tc x40 ((10 : Int32) + p4)) ⟨rfl, rfl, Nat.le_of_ble_eq_true rfl, Nat.le_of_ble_eq_true rfl⟩ rfl [] rfl rfl rfl (Nat.le_of_ble_eq_true rfl) (fun x41 => ?_)
        refine j_callVV2 (As := [.int x41]) C d6_factor_61 mv6_79 (kX6_add _ _ tc h_ h_codes v26 v27 x41) ⟨rfl, rfl, Nat.le_of_ble_eq_true rfl, Nat.le_of_ble_eq_true rfl⟩ rfl 0 rfl [0, 1] rfl rfl rfl (Nat.le_of_ble_eq_true rfl) (fun o42 o43 => [(h_, .inr (6, [.ref h_codes, .int o43])), (h_codes, .inl (tc.1, 24, .inl o42)), (h_p1, .inr (6, [.ref h_p1_codes, .int c_p1_count])), (h_p1_codes, .inl (tc.1, 24, .inl c_p1_codes))]) [(true, 0), (true, 1), (false, 2), (false, 3)] (fun _ => rfl) (by decide +kernel) (fun o42 o43 => ?_)
        refine j_goto C d6_factor_64 ?_
        exact j_sub [1, 2, 3, 4, 5, 6, 7] rfl (hk33 _ _)

set_option maxHeartbeats 4000000 in
set_option maxRecDepth 100000 in
theorem kX6_factor (l : Launch) (D : va_G) (tc : jTC) (N : Nat) (h_ h_codes h_p1 h_p1_codes : Nat) (c_codes : (Nat → Int32)) (c_count : Int32) (c_p1_codes : (Nat → Int32)) (c_p1_count : Int32) (p2 : Int32) (p3 : Int32) (p4 : Int32) : ctV l D tc yX6_factor (Cond.code yX6_factor cX6_factor 8 none :: jtb) ({ frames := 4, cells := 0, slots := 0, locals := 110 } : Room) [.ref h_, .ref h_p1, .int p2, .int p3, .int p4] [(h_, .inr (6, [.ref h_codes, .int c_count])), (h_codes, .inl (tc.1, 24, .inl c_codes)), (h_p1, .inr (6, [.ref h_p1_codes, .int c_p1_count])), (h_p1_codes, .inl (tc.1, 24, .inl c_p1_codes))] (fX6_factor N c_codes c_count c_p1_codes c_p1_count p2 p3 p4) (fun (u : (Nat → Int32) × Int32) => [(h_, .inr (6, [.ref h_codes, .int u.2])), (h_codes, .inl (tc.1, 24, .inl u.1)), (h_p1, .inr (6, [.ref h_p1_codes, .int c_p1_count])), (h_p1_codes, .inl (tc.1, 24, .inl c_p1_codes))]) := by
  refine ctV_of (lv0 := [(0, .ref h_), (1, .ref h_p1), (2, .int p2), (3, .int p3), (4, .int p4)]) (by decide +kernel) (Nat.le_of_ble_eq_true rfl) rfl (fun X C => ?_)
  unfold fX6_factor
  refine j_aload C d6_factor_0 1 rfl ?_
  refine j_iload C d6_factor_1 2 rfl ?_
  refine j_iload C d6_factor_2 3 rfl ?_
  refine j_callVI0 (As := [.int p2, .int p3]) C d6_factor_3 mv6_70 (kX6_leadWithPrefix _ _ tc N h_p1 h_p1_codes c_p1_codes c_p1_count p2 p3) ⟨rfl, rfl, Nat.le_of_ble_eq_true rfl, Nat.le_of_ble_eq_true rfl⟩ rfl 2 rfl [2, 3] rfl rfl rfl (Nat.le_of_ble_eq_true rfl) (fun x1 => ?_)
  refine j_istore C d6_factor_6 (by decide) (lv' := [(5, .int x1), (0, .ref h_), (1, .ref h_p1), (2, .int p2), (3, .int p3), (4, .int p4)]) rfl ?_
  refine j_iload C d6_factor_8 0 rfl ?_
  refine j_if_ge C d6_factor_10 ?_ ?_
  · refine j_aload C d6_factor_14 1 rfl ?_
    refine j_callVV (As := []) C d6_factor_15 mv6_73 (kX6_removeAll _ _ tc h_ (.ref h_codes) c_count) ⟨rfl, rfl, Nat.le_of_ble_eq_true rfl, Nat.le_of_ble_eq_true rfl⟩ rfl 0 rfl [0] rfl rfl rfl (Nat.le_of_ble_eq_true rfl) (fun o2 => [(h_, .inr (6, [.ref h_codes, .int o2])), (h_codes, .inl (tc.1, 24, .inl c_codes)), (h_p1, .inr (6, [.ref h_p1_codes, .int c_p1_count])), (h_p1_codes, .inl (tc.1, 24, .inl c_p1_codes))]) [(true, 0), (false, 1), (false, 2), (false, 3)] (fun _ => rfl) (by decide +kernel) (fun o2 => ?_)
    refine j_const C d6_factor_18 ?_
    refine j_istore C d6_factor_19 (by decide) (lv' := [(6, .int 0), (5, .int x1), (0, .ref h_), (1, .ref h_p1), (2, .int p2), (3, .int p3), (4, .int p4)]) rfl ?_
    refine j_join2 99 (fun v3 v4 => [(h_, .inr (6, [.ref h_codes, .int v4])), (h_codes, .inl (tc.1, 24, .inl v3)), (h_p1, .inr (6, [.ref h_p1_codes, .int c_p1_count])), (h_p1_codes, .inl (tc.1, 24, .inl c_p1_codes))]) (fun v3 v4 => [(0, .ref h_), (1, .ref h_p1), (2, .int p2), (3, .int p3), (4, .int p4), (5, .int x1)]) (fun v3 v4 => []) (fun v3 v4 => ?_) (fun k24 hk24 => ?_)
    · refine j_const C d6_factor_99 ?_
      refine j_istore C d6_factor_100 (by decide) (lv' := [(6, .int 0), (0, .ref h_), (1, .ref h_p1), (2, .int p2), (3, .int p3), (4, .int p4), (5, .int x1)]) rfl ?_
      refine j_join2 158 (fun v5 v6 => [(h_, .inr (6, [.ref h_codes, .int v6])), (h_codes, .inl (tc.1, 24, .inl v5)), (h_p1, .inr (6, [.ref h_p1_codes, .int c_p1_count])), (h_p1_codes, .inl (tc.1, 24, .inl c_p1_codes))]) (fun v5 v6 => []) (fun v5 v6 => []) (fun v5 v6 => ?_) (fun k7 hk7 => ?_)
      · exact j_vret C d6_factor_158 rfl
      · exact j_sub [1, 2, 3, 4, 5, 6, 0] rfl (j_loop3 (fun v8 v9 v10 => [(h_, .inr (6, [.ref h_codes, .int v10])), (h_codes, .inl (tc.1, 24, .inl v9)), (h_p1, .inr (6, [.ref h_p1_codes, .int c_p1_count])), (h_p1_codes, .inl (tc.1, 24, .inl c_p1_codes))]) (fun v8 v9 v10 => [(0, .ref h_), (1, .ref h_p1), (2, .int p2), (3, .int p3), (4, .int p4), (5, .int x1), (6, .int v8)]) (fun rc11 hrc11 v8 v9 v10 => wX6_factor_102 C N h_ h_codes h_p1 h_p1_codes p2 p3 p4 c_p1_codes c_p1_count x1 k7 hk7 rc11 hrc11 v8 v9 v10) N _ _ _)
    · exact j_sub [2, 3, 4, 5, 6, 1, 0] rfl (j_loop3 (fun v25 v26 v27 => [(h_, .inr (6, [.ref h_codes, .int v27])), (h_codes, .inl (tc.1, 24, .inl v26)), (h_p1, .inr (6, [.ref h_p1_codes, .int c_p1_count])), (h_p1_codes, .inl (tc.1, 24, .inl c_p1_codes))]) (fun v25 v26 v27 => [(0, .ref h_), (1, .ref h_p1), (2, .int p2), (3, .int p3), (4, .int p4), (5, .int x1), (6, .int v25)]) (fun rc28 hrc28 v25 v26 v27 => wX6_factor_21 C N h_ h_codes h_p1 h_p1_codes p2 p3 p4 c_p1_codes c_p1_count x1 k24 hk24 rc28 hrc28 v25 v26 v27) N _ _ _)
  · exact j_vret C d6_factor_13 rfl

theorem d6_turnRecursion_0 : jdk cX6_turnRecursion 0 10 2 := Or.inr (Or.inl ⟨10, by decide +kernel⟩)
theorem d6_turnRecursion_2 : jdi cX6_turnRecursion 2 3 3 := Or.inl ⟨3, by decide +kernel⟩
theorem d6_turnRecursion_3 : jd cX6_turnRecursion 3 (.iadd) 1 4 := by decide +kernel
theorem d6_turnRecursion_4 : jds cX6_turnRecursion 4 4 6 := Or.inr (by decide +kernel)
theorem d6_turnRecursion_6 : jda cX6_turnRecursion 6 0 7 := Or.inl ⟨0, by decide +kernel⟩
theorem d6_turnRecursion_7 : jd cX6_turnRecursion 7 (.invokevirtual 73) 3 10 := by decide +kernel
theorem d6_turnRecursion_10 : jdk cX6_turnRecursion 10 0 11 := Or.inl ⟨0, by decide +kernel⟩
theorem d6_turnRecursion_11 : jds cX6_turnRecursion 11 5 13 := Or.inr (by decide +kernel)
theorem d6_turnRecursion_13 : jdi cX6_turnRecursion 13 5 15 := Or.inr (by decide +kernel)
theorem d6_turnRecursion_15 : jda cX6_turnRecursion 15 1 16 := Or.inl ⟨1, by decide +kernel⟩
theorem d6_turnRecursion_16 : jd cX6_turnRecursion 16 (.getfield 37) 3 19 := by decide +kernel
theorem d6_turnRecursion_19 : jdb cX6_turnRecursion 19 (.if_icmp .ge 55) 55 74 22 := by decide +kernel
theorem d6_turnRecursion_22 : jda cX6_turnRecursion 22 1 23 := Or.inl ⟨1, by decide +kernel⟩
theorem d6_turnRecursion_23 : jd cX6_turnRecursion 23 (.getfield 9) 3 26 := by decide +kernel
theorem d6_turnRecursion_26 : jdi cX6_turnRecursion 26 5 28 := Or.inr (by decide +kernel)
theorem d6_turnRecursion_28 : jd cX6_turnRecursion 28 (.iaload) 1 29 := by decide +kernel
theorem d6_turnRecursion_29 : jds cX6_turnRecursion 29 6 31 := Or.inr (by decide +kernel)
theorem d6_turnRecursion_31 : jdi cX6_turnRecursion 31 6 33 := Or.inr (by decide +kernel)
theorem d6_turnRecursion_33 : jdi cX6_turnRecursion 33 2 34 := Or.inl ⟨2, by decide +kernel⟩
theorem d6_turnRecursion_34 : jd cX6_turnRecursion 34 (.invokestatic 47) 3 37 := by decide +kernel
theorem d6_turnRecursion_37 : jdb cX6_turnRecursion 37 (.ifCond .ne 12) 12 49 40 := by decide +kernel
theorem d6_turnRecursion_40 : jda cX6_turnRecursion 40 0 41 := Or.inl ⟨0, by decide +kernel⟩
theorem d6_turnRecursion_41 : jdi cX6_turnRecursion 41 6 43 := Or.inr (by decide +kernel)
theorem d6_turnRecursion_43 : jd cX6_turnRecursion 43 (.invokevirtual 79) 3 46 := by decide +kernel
theorem d6_turnRecursion_46 : jdb cX6_turnRecursion 46 (.goto 22) 22 68 49 := by decide +kernel
theorem d6_turnRecursion_49 : jdi cX6_turnRecursion 49 6 51 := Or.inr (by decide +kernel)
theorem d6_turnRecursion_51 : jd cX6_turnRecursion 51 (.invokestatic 51) 3 54 := by decide +kernel
theorem d6_turnRecursion_54 : jdb cX6_turnRecursion 54 (.ifCond .ne 14) 14 68 57 := by decide +kernel
theorem d6_turnRecursion_57 : jda cX6_turnRecursion 57 0 58 := Or.inl ⟨0, by decide +kernel⟩
theorem d6_turnRecursion_58 : jdi cX6_turnRecursion 58 6 60 := Or.inr (by decide +kernel)
theorem d6_turnRecursion_60 : jdi cX6_turnRecursion 60 4 62 := Or.inr (by decide +kernel)
theorem d6_turnRecursion_62 : jd cX6_turnRecursion 62 (.invokestatic 26) 3 65 := by decide +kernel
theorem d6_turnRecursion_65 : jd cX6_turnRecursion 65 (.invokevirtual 79) 3 68 := by decide +kernel
theorem d6_turnRecursion_68 : jd cX6_turnRecursion 68 (.iinc 5 1) 3 71 := by decide +kernel
theorem d6_turnRecursion_71 : jdb cX6_turnRecursion 71 (.goto (-58)) (-58) 13 74 := by decide +kernel
theorem d6_turnRecursion_74 : jdk cX6_turnRecursion 74 0 75 := Or.inl ⟨0, by decide +kernel⟩
theorem d6_turnRecursion_75 : jds cX6_turnRecursion 75 5 77 := Or.inr (by decide +kernel)
theorem d6_turnRecursion_77 : jdi cX6_turnRecursion 77 5 79 := Or.inr (by decide +kernel)
theorem d6_turnRecursion_79 : jda cX6_turnRecursion 79 1 80 := Or.inl ⟨1, by decide +kernel⟩
theorem d6_turnRecursion_80 : jd cX6_turnRecursion 80 (.getfield 37) 3 83 := by decide +kernel
theorem d6_turnRecursion_83 : jdb cX6_turnRecursion 83 (.if_icmp .ge 51) 51 134 86 := by decide +kernel
theorem d6_turnRecursion_86 : jda cX6_turnRecursion 86 1 87 := Or.inl ⟨1, by decide +kernel⟩
theorem d6_turnRecursion_87 : jd cX6_turnRecursion 87 (.getfield 9) 3 90 := by decide +kernel
theorem d6_turnRecursion_90 : jdi cX6_turnRecursion 90 5 92 := Or.inr (by decide +kernel)
theorem d6_turnRecursion_92 : jd cX6_turnRecursion 92 (.iaload) 1 93 := by decide +kernel
theorem d6_turnRecursion_93 : jds cX6_turnRecursion 93 6 95 := Or.inr (by decide +kernel)
theorem d6_turnRecursion_95 : jdi cX6_turnRecursion 95 6 97 := Or.inr (by decide +kernel)
theorem d6_turnRecursion_97 : jdi cX6_turnRecursion 97 2 98 := Or.inl ⟨2, by decide +kernel⟩
theorem d6_turnRecursion_98 : jd cX6_turnRecursion 98 (.invokestatic 47) 3 101 := by decide +kernel
theorem d6_turnRecursion_101 : jdb cX6_turnRecursion 101 (.ifCond .eq 27) 27 128 104 := by decide +kernel
theorem d6_turnRecursion_104 : jdi cX6_turnRecursion 104 6 106 := Or.inr (by decide +kernel)
theorem d6_turnRecursion_106 : jd cX6_turnRecursion 106 (.invokestatic 51) 3 109 := by decide +kernel
theorem d6_turnRecursion_109 : jdb cX6_turnRecursion 109 (.ifCond .eq 19) 19 128 112 := by decide +kernel
theorem d6_turnRecursion_112 : jda cX6_turnRecursion 112 0 113 := Or.inl ⟨0, by decide +kernel⟩
theorem d6_turnRecursion_113 : jdi cX6_turnRecursion 113 6 115 := Or.inr (by decide +kernel)
theorem d6_turnRecursion_115 : jdk cX6_turnRecursion 115 1 116 := Or.inl ⟨1, by decide +kernel⟩
theorem d6_turnRecursion_116 : jdi cX6_turnRecursion 116 3 117 := Or.inl ⟨3, by decide +kernel⟩
theorem d6_turnRecursion_117 : jd cX6_turnRecursion 117 (.invokestatic 83) 3 120 := by decide +kernel
theorem d6_turnRecursion_120 : jdi cX6_turnRecursion 120 4 122 := Or.inr (by decide +kernel)
theorem d6_turnRecursion_122 : jd cX6_turnRecursion 122 (.invokestatic 26) 3 125 := by decide +kernel
theorem d6_turnRecursion_125 : jd cX6_turnRecursion 125 (.invokevirtual 79) 3 128 := by decide +kernel
theorem d6_turnRecursion_128 : jd cX6_turnRecursion 128 (.iinc 5 1) 3 131 := by decide +kernel
theorem d6_turnRecursion_131 : jdb cX6_turnRecursion 131 (.goto (-54)) (-54) 77 134 := by decide +kernel
theorem d6_turnRecursion_134 : jda cX6_turnRecursion 134 0 135 := Or.inl ⟨0, by decide +kernel⟩
theorem d6_turnRecursion_135 : jdi cX6_turnRecursion 135 3 136 := Or.inl ⟨3, by decide +kernel⟩
theorem d6_turnRecursion_136 : jd cX6_turnRecursion 136 (.invokestatic 29) 3 139 := by decide +kernel
theorem d6_turnRecursion_139 : jd cX6_turnRecursion 139 (.invokevirtual 79) 3 142 := by decide +kernel
theorem d6_turnRecursion_142 : decode cX6_turnRecursion 142 = .ok (.return_, 1) := by decide +kernel
set_option maxHeartbeats 4000000 in
set_option maxRecDepth 100000 in
theorem wX6_turnRecursion_77 {X : jC} {tc : jTC} (C : jx X cX6_turnRecursion 7 RX6 none tc ({ frames := 3, cells := 0, slots := 0, locals := 66 } : Room)) (N : Nat) (h_ h_codes h_p1 h_p1_codes : Nat) (p2 : Int32) (p3 : Int32) (c_p1_codes : (Nat → Int32)) (c_p1_count : Int32) (x1 : Int32) (k10 : ((Nat → Int32) → Int32 → Option ((Nat → Int32) × Int32))) (hk10 : ∀ (v26 : (Nat → Int32)) (v27 : Int32), jo X 7 (0, 0) (jQV X (fun (u : (Nat → Int32) × Int32) => [(h_, .inr (6, [.ref h_codes, .int u.2])), (h_codes, .inl (tc.1, 24, .inl u.1)), (h_p1, .inr (6, [.ref h_p1_codes, .int c_p1_count])), (h_p1_codes, .inl (tc.1, 24, .inl c_p1_codes))])) (k10 v26 v27) [(h_, .inr (6, [.ref h_codes, .int v27])), (h_codes, .inl (tc.1, 24, .inl v26)), (h_p1, .inr (6, [.ref h_p1_codes, .int c_p1_count])), (h_p1_codes, .inl (tc.1, 24, .inl c_p1_codes))] 134 [(0, .ref h_), (3, .int p3)] []) (rc14 : Int32 → (Nat → Int32) → Int32 → Option ((Nat → Int32) × Int32)) (hrc14 : ∀ (v11 : Int32) (v12 : (Nat → Int32)) (v13 : Int32), jo X 7 (0, 0) (jQV X (fun (u : (Nat → Int32) × Int32) => [(h_, .inr (6, [.ref h_codes, .int u.2])), (h_codes, .inl (tc.1, 24, .inl u.1)), (h_p1, .inr (6, [.ref h_p1_codes, .int c_p1_count])), (h_p1_codes, .inl (tc.1, 24, .inl c_p1_codes))])) (rc14 v11 v12 v13) [(h_, .inr (6, [.ref h_codes, .int v13])), (h_codes, .inl (tc.1, 24, .inl v12)), (h_p1, .inr (6, [.ref h_p1_codes, .int c_p1_count])), (h_p1_codes, .inl (tc.1, 24, .inl c_p1_codes))] 77 [(0, .ref h_), (1, .ref h_p1), (2, .int p2), (3, .int p3), (4, .int x1), (5, .int v11)] []) (v11 : Int32) (v12 : (Nat → Int32)) (v13 : Int32) : jo X 7 (0, 0) (jQV X (fun (u : (Nat → Int32) × Int32) => [(h_, .inr (6, [.ref h_codes, .int u.2])), (h_codes, .inl (tc.1, 24, .inl u.1)), (h_p1, .inr (6, [.ref h_p1_codes, .int c_p1_count])), (h_p1_codes, .inl (tc.1, 24, .inl c_p1_codes))])) (bX6_turnRecursion_77 N p2 p3 c_p1_codes c_p1_count x1 k10 rc14 v11 v12 v13) [(h_, .inr (6, [.ref h_codes, .int v13])), (h_codes, .inl (tc.1, 24, .inl v12)), (h_p1, .inr (6, [.ref h_p1_codes, .int c_p1_count])), (h_p1_codes, .inl (tc.1, 24, .inl c_p1_codes))] 77 [(0, .ref h_), (1, .ref h_p1), (2, .int p2), (3, .int p3), (4, .int x1), (5, .int v11)] [] := by
  unfold bX6_turnRecursion_77
  refine j_iload C d6_turnRecursion_77 5 rfl ?_
  refine j_aload C d6_turnRecursion_79 1 rfl ?_
  refine j_get C d6_turnRecursion_80 fl6_37 2 rfl rfl ?_
  refine j_icmp_ge C d6_turnRecursion_83 ?_ ?_
  · exact j_sub [0, 3] rfl (hk10 _ _)
  · refine j_aload C d6_turnRecursion_86 1 rfl ?_
    refine j_get C d6_turnRecursion_87 fl6_9 2 rfl rfl ?_
    refine j_iload C d6_turnRecursion_90 5 rfl ?_
    refine j_iald C d6_turnRecursion_92 3 rfl (fun x15 => ?_)
    refine j_istore C d6_turnRecursion_93 (by decide) (lv' := [(6, .int x15), (0, .ref h_), (1, .ref h_p1), (2, .int p2), (3, .int p3), (4, .int x1), (5, .int v11)]) rfl ?_
    refine j_iload C d6_turnRecursion_95 0 rfl ?_
    refine j_iload C d6_turnRecursion_97 3 rfl ?_
    refine j_callSI0 (As := [.int x15, .int p2]) C d6_turnRecursion_98 ms6_47 (kX6_isOf _ _ tc x15 p2) ⟨rfl, rfl, Nat.le_of_ble_eq_true rfl, Nat.le_of_ble_eq_true rfl⟩ rfl [] rfl rfl rfl (Nat.le_of_ble_eq_true rfl) (fun x16 => ?_)
    refine j_join2 128 (fun v17 v18 => [(h_, .inr (6, [.ref h_codes, .int v18])), (h_codes, .inl (tc.1, 24, .inl v17)), (h_p1, .inr (6, [.ref h_p1_codes, .int c_p1_count])), (h_p1_codes, .inl (tc.1, 24, .inl c_p1_codes))]) (fun v17 v18 => [(0, .ref h_), (1, .ref h_p1), (2, .int p2), (3, .int p3), (4, .int x1), (5, .int v11)]) (fun v17 v18 => []) (fun v17 v18 => ?_) (fun k20 hk20 => ?_)
    · refine j_iincN C (fun x19 => [(5, .int x19), (0, .ref h_), (1, .ref h_p1), (2, .int p2), (3, .int p3), (4, .int x1)]) d6_turnRecursion_128 5 rfl (by decide +kernel) (by decide) (fun _ => rfl) (fun x19 => ?_)
      refine j_goto C d6_turnRecursion_131 ?_
      exact j_sub [1, 2, 3, 4, 5, 0] rfl (hrc14 _ _ _)
    · refine j_if_eq C d6_turnRecursion_101 ?_ ?_
      · exact j_sub [1, 2, 3, 4, 5, 6] rfl (hk20 _ _)
      · refine j_iload C d6_turnRecursion_104 0 rfl ?_
        refine j_callSI0 (As := [.int x15]) C d6_turnRecursion_106 ms6_51 (kX6_isRecursive _ _ tc x15) ⟨rfl, rfl, Nat.le_of_ble_eq_true rfl, Nat.le_of_ble_eq_true rfl⟩ rfl [] rfl rfl rfl (Nat.le_of_ble_eq_true rfl) (fun x21 => ?_)
        refine j_if_eq C d6_turnRecursion_109 ?_ ?_
        · exact j_sub [1, 2, 3, 4, 5, 6] rfl (hk20 _ _)
        · refine j_aload C d6_turnRecursion_112 1 rfl ?_
          refine j_iload C d6_turnRecursion_113 0 rfl ?_
          refine j_const C d6_turnRecursion_115 ?_
          refine j_iload C d6_turnRecursion_116 4 rfl ?_
          refine j_callSI0 (As := [.int x15, .int 1, .int p3]) C d6_turnRecursion_117 ms6_83 (kX6_suffixOf _ _ tc N x15 1 p3) ⟨rfl, rfl, Nat.le_of_ble_eq_true rfl, Nat.le_of_ble_eq_true rfl⟩ rfl [] rfl rfl rfl (Nat.le_of_ble_eq_true rfl) (fun x22 => ?_)
          refine j_iload C d6_turnRecursion_120 5 rfl ?_
          refine j_callSI0 (As := [.int x22, .int x1]) C d6_turnRecursion_122 ms6_26 (kX6_extended _ _ tc x22 x1) ⟨rfl, rfl, Nat.le_of_ble_eq_true rfl, Nat.le_of_ble_eq_true rfl⟩ rfl [] rfl rfl rfl (Nat.le_of_ble_eq_true rfl) (fun x23 => ?_)
          refine j_callVV2 (As := [.int x23]) C d6_turnRecursion_125 mv6_79 (kX6_add _ _ tc h_ h_codes v12 v13 x23) ⟨rfl, rfl, Nat.le_of_ble_eq_true rfl, Nat.le_of_ble_eq_true rfl⟩ rfl 0 rfl [0, 1] rfl rfl rfl (Nat.le_of_ble_eq_true rfl) (fun o24 o25 => [(h_, .inr (6, [.ref h_codes, .int o25])), (h_codes, .inl (tc.1, 24, .inl o24)), (h_p1, .inr (6, [.ref h_p1_codes, .int c_p1_count])), (h_p1_codes, .inl (tc.1, 24, .inl c_p1_codes))]) [(true, 0), (true, 1), (false, 2), (false, 3)] (fun _ => rfl) (by decide +kernel) (fun o24 o25 => ?_)
          exact j_sub [1, 2, 3, 4, 5, 6] rfl (hk20 _ _)

set_option maxHeartbeats 4000000 in
set_option maxRecDepth 100000 in
theorem wX6_turnRecursion_13 {X : jC} {tc : jTC} (C : jx X cX6_turnRecursion 7 RX6 none tc ({ frames := 3, cells := 0, slots := 0, locals := 66 } : Room)) (h_ h_codes h_p1 h_p1_codes : Nat) (p2 : Int32) (p3 : Int32) (c_p1_codes : (Nat → Int32)) (c_p1_count : Int32) (x1 : Int32) (k28 : ((Nat → Int32) → Int32 → Option ((Nat → Int32) × Int32))) (hk28 : ∀ (v45 : (Nat → Int32)) (v46 : Int32), jo X 7 (0, 0) (jQV X (fun (u : (Nat → Int32) × Int32) => [(h_, .inr (6, [.ref h_codes, .int u.2])), (h_codes, .inl (tc.1, 24, .inl u.1)), (h_p1, .inr (6, [.ref h_p1_codes, .int c_p1_count])), (h_p1_codes, .inl (tc.1, 24, .inl c_p1_codes))])) (k28 v45 v46) [(h_, .inr (6, [.ref h_codes, .int v46])), (h_codes, .inl (tc.1, 24, .inl v45)), (h_p1, .inr (6, [.ref h_p1_codes, .int c_p1_count])), (h_p1_codes, .inl (tc.1, 24, .inl c_p1_codes))] 74 [(0, .ref h_), (1, .ref h_p1), (2, .int p2), (3, .int p3), (4, .int x1)] []) (rc32 : Int32 → (Nat → Int32) → Int32 → Option ((Nat → Int32) × Int32)) (hrc32 : ∀ (v29 : Int32) (v30 : (Nat → Int32)) (v31 : Int32), jo X 7 (0, 0) (jQV X (fun (u : (Nat → Int32) × Int32) => [(h_, .inr (6, [.ref h_codes, .int u.2])), (h_codes, .inl (tc.1, 24, .inl u.1)), (h_p1, .inr (6, [.ref h_p1_codes, .int c_p1_count])), (h_p1_codes, .inl (tc.1, 24, .inl c_p1_codes))])) (rc32 v29 v30 v31) [(h_, .inr (6, [.ref h_codes, .int v31])), (h_codes, .inl (tc.1, 24, .inl v30)), (h_p1, .inr (6, [.ref h_p1_codes, .int c_p1_count])), (h_p1_codes, .inl (tc.1, 24, .inl c_p1_codes))] 13 [(0, .ref h_), (1, .ref h_p1), (2, .int p2), (3, .int p3), (4, .int x1), (5, .int v29)] []) (v29 : Int32) (v30 : (Nat → Int32)) (v31 : Int32) : jo X 7 (0, 0) (jQV X (fun (u : (Nat → Int32) × Int32) => [(h_, .inr (6, [.ref h_codes, .int u.2])), (h_codes, .inl (tc.1, 24, .inl u.1)), (h_p1, .inr (6, [.ref h_p1_codes, .int c_p1_count])), (h_p1_codes, .inl (tc.1, 24, .inl c_p1_codes))])) (bX6_turnRecursion_13 p2 c_p1_codes c_p1_count x1 k28 rc32 v29 v30 v31) [(h_, .inr (6, [.ref h_codes, .int v31])), (h_codes, .inl (tc.1, 24, .inl v30)), (h_p1, .inr (6, [.ref h_p1_codes, .int c_p1_count])), (h_p1_codes, .inl (tc.1, 24, .inl c_p1_codes))] 13 [(0, .ref h_), (1, .ref h_p1), (2, .int p2), (3, .int p3), (4, .int x1), (5, .int v29)] [] := by
  unfold bX6_turnRecursion_13
  refine j_iload C d6_turnRecursion_13 5 rfl ?_
  refine j_aload C d6_turnRecursion_15 1 rfl ?_
  refine j_get C d6_turnRecursion_16 fl6_37 2 rfl rfl ?_
  refine j_icmp_ge C d6_turnRecursion_19 ?_ ?_
  · exact j_sub [0, 1, 2, 3, 4] rfl (hk28 _ _)
  · refine j_aload C d6_turnRecursion_22 1 rfl ?_
    refine j_get C d6_turnRecursion_23 fl6_9 2 rfl rfl ?_
    refine j_iload C d6_turnRecursion_26 5 rfl ?_
    refine j_iald C d6_turnRecursion_28 3 rfl (fun x33 => ?_)
    refine j_istore C d6_turnRecursion_29 (by decide) (lv' := [(6, .int x33), (0, .ref h_), (1, .ref h_p1), (2, .int p2), (3, .int p3), (4, .int x1), (5, .int v29)]) rfl ?_
    refine j_iload C d6_turnRecursion_31 0 rfl ?_
    refine j_iload C d6_turnRecursion_33 3 rfl ?_
    refine j_callSI0 (As := [.int x33, .int p2]) C d6_turnRecursion_34 ms6_47 (kX6_isOf _ _ tc x33 p2) ⟨rfl, rfl, Nat.le_of_ble_eq_true rfl, Nat.le_of_ble_eq_true rfl⟩ rfl [] rfl rfl rfl (Nat.le_of_ble_eq_true rfl) (fun x34 => ?_)
    refine j_join2 68 (fun v35 v36 => [(h_, .inr (6, [.ref h_codes, .int v36])), (h_codes, .inl (tc.1, 24, .inl v35)), (h_p1, .inr (6, [.ref h_p1_codes, .int c_p1_count])), (h_p1_codes, .inl (tc.1, 24, .inl c_p1_codes))]) (fun v35 v36 => [(0, .ref h_), (1, .ref h_p1), (2, .int p2), (3, .int p3), (4, .int x1), (5, .int v29)]) (fun v35 v36 => []) (fun v35 v36 => ?_) (fun k38 hk38 => ?_)
    · refine j_iincN C (fun x37 => [(5, .int x37), (0, .ref h_), (1, .ref h_p1), (2, .int p2), (3, .int p3), (4, .int x1)]) d6_turnRecursion_68 5 rfl (by decide +kernel) (by decide) (fun _ => rfl) (fun x37 => ?_)
      refine j_goto C d6_turnRecursion_71 ?_
      exact j_sub [1, 2, 3, 4, 5, 0] rfl (hrc32 _ _ _)
    · refine j_if_ne C d6_turnRecursion_37 ?_ ?_
      · refine j_iload C d6_turnRecursion_49 0 rfl ?_
        refine j_callSI0 (As := [.int x33]) C d6_turnRecursion_51 ms6_51 (kX6_isRecursive _ _ tc x33) ⟨rfl, rfl, Nat.le_of_ble_eq_true rfl, Nat.le_of_ble_eq_true rfl⟩ rfl [] rfl rfl rfl (Nat.le_of_ble_eq_true rfl) (fun x39 => ?_)
        refine j_if_ne C d6_turnRecursion_54 ?_ ?_
        · exact j_sub [1, 2, 3, 4, 5, 6] rfl (hk38 _ _)
        · refine j_aload C d6_turnRecursion_57 1 rfl ?_
          refine j_iload C d6_turnRecursion_58 0 rfl ?_
          refine j_iload C d6_turnRecursion_60 5 rfl ?_
          refine j_callSI0 (As := [.int x33, .int x1]) C d6_turnRecursion_62 ms6_26 (kX6_extended _ _ tc x33 x1) ⟨rfl, rfl, Nat.le_of_ble_eq_true rfl, Nat.le_of_ble_eq_true rfl⟩ rfl [] rfl rfl rfl (Nat.le_of_ble_eq_true rfl) (fun x40 => ?_)
          refine j_callVV2 (As := [.int x40]) C d6_turnRecursion_65 mv6_79 (kX6_add _ _ tc h_ h_codes v30 v31 x40) ⟨rfl, rfl, Nat.le_of_ble_eq_true rfl, Nat.le_of_ble_eq_true rfl⟩ rfl 0 rfl [0, 1] rfl rfl rfl (Nat.le_of_ble_eq_true rfl) (fun o41 o42 => [(h_, .inr (6, [.ref h_codes, .int o42])), (h_codes, .inl (tc.1, 24, .inl o41)), (h_p1, .inr (6, [.ref h_p1_codes, .int c_p1_count])), (h_p1_codes, .inl (tc.1, 24, .inl c_p1_codes))]) [(true, 0), (true, 1), (false, 2), (false, 3)] (fun _ => rfl) (by decide +kernel) (fun o41 o42 => ?_)
          exact j_sub [1, 2, 3, 4, 5, 6] rfl (hk38 _ _)
      · refine j_aload C d6_turnRecursion_40 1 rfl ?_
        refine j_iload C d6_turnRecursion_41 0 rfl ?_
        refine j_callVV2 (As := [.int x33]) C d6_turnRecursion_43 mv6_79 (kX6_add _ _ tc h_ h_codes v30 v31 x33) ⟨rfl, rfl, Nat.le_of_ble_eq_true rfl, Nat.le_of_ble_eq_true rfl⟩ rfl 0 rfl [0, 1] rfl rfl rfl (Nat.le_of_ble_eq_true rfl) (fun o43 o44 => [(h_, .inr (6, [.ref h_codes, .int o44])), (h_codes, .inl (tc.1, 24, .inl o43)), (h_p1, .inr (6, [.ref h_p1_codes, .int c_p1_count])), (h_p1_codes, .inl (tc.1, 24, .inl c_p1_codes))]) [(true, 0), (true, 1), (false, 2), (false, 3)] (fun _ => rfl) (by decide +kernel) (fun o43 o44 => ?_)
        refine j_goto C d6_turnRecursion_46 ?_
        exact j_sub [1, 2, 3, 4, 5, 6] rfl (hk38 _ _)

set_option maxHeartbeats 4000000 in
set_option maxRecDepth 100000 in
theorem kX6_turnRecursion (l : Launch) (D : va_G) (tc : jTC) (N : Nat) (h_ h_codes h_p1 h_p1_codes : Nat) (c_codes : (Nat → Int32)) (c_count : Int32) (c_p1_codes : (Nat → Int32)) (c_p1_count : Int32) (p2 : Int32) (p3 : Int32) : ctV l D tc yX6_turnRecursion (Cond.code yX6_turnRecursion cX6_turnRecursion 7 none :: jtb) ({ frames := 3, cells := 0, slots := 0, locals := 66 } : Room) [.ref h_, .ref h_p1, .int p2, .int p3] [(h_, .inr (6, [.ref h_codes, .int c_count])), (h_codes, .inl (tc.1, 24, .inl c_codes)), (h_p1, .inr (6, [.ref h_p1_codes, .int c_p1_count])), (h_p1_codes, .inl (tc.1, 24, .inl c_p1_codes))] (fX6_turnRecursion N c_codes c_count c_p1_codes c_p1_count p2 p3) (fun (u : (Nat → Int32) × Int32) => [(h_, .inr (6, [.ref h_codes, .int u.2])), (h_codes, .inl (tc.1, 24, .inl u.1)), (h_p1, .inr (6, [.ref h_p1_codes, .int c_p1_count])), (h_p1_codes, .inl (tc.1, 24, .inl c_p1_codes))]) := by
  refine ctV_of (lv0 := [(0, .ref h_), (1, .ref h_p1), (2, .int p2), (3, .int p3)]) (by decide +kernel) (Nat.le_of_ble_eq_true rfl) rfl (fun X C => ?_)
  unfold fX6_turnRecursion
  refine j_const C d6_turnRecursion_0 ?_
  refine j_iload C d6_turnRecursion_2 3 rfl ?_
  refine j_iadd C d6_turnRecursion_3 ?_
  refine j_leti (fun x1 => ?_)
  refine j_istore C d6_turnRecursion_4 (by decide) (lv' := [(4, .int x1), (0, .ref h_), (1, .ref h_p1), (2, .int p2), (3, .int p3)]) rfl ?_
  refine j_aload C d6_turnRecursion_6 1 rfl ?_
  refine j_callVV (As := []) C d6_turnRecursion_7 mv6_73 (kX6_removeAll _ _ tc h_ (.ref h_codes) c_count) ⟨rfl, rfl, Nat.le_of_ble_eq_true rfl, Nat.le_of_ble_eq_true rfl⟩ rfl 0 rfl [0] rfl rfl rfl (Nat.le_of_ble_eq_true rfl) (fun o2 => [(h_, .inr (6, [.ref h_codes, .int o2])), (h_codes, .inl (tc.1, 24, .inl c_codes)), (h_p1, .inr (6, [.ref h_p1_codes, .int c_p1_count])), (h_p1_codes, .inl (tc.1, 24, .inl c_p1_codes))]) [(true, 0), (false, 1), (false, 2), (false, 3)] (fun _ => rfl) (by decide +kernel) (fun o2 => ?_)
  refine j_const C d6_turnRecursion_10 ?_
  refine j_istore C d6_turnRecursion_11 (by decide) (lv' := [(5, .int 0), (4, .int x1), (0, .ref h_), (1, .ref h_p1), (2, .int p2), (3, .int p3)]) rfl ?_
  refine j_join2 74 (fun v3 v4 => [(h_, .inr (6, [.ref h_codes, .int v4])), (h_codes, .inl (tc.1, 24, .inl v3)), (h_p1, .inr (6, [.ref h_p1_codes, .int c_p1_count])), (h_p1_codes, .inl (tc.1, 24, .inl c_p1_codes))]) (fun v3 v4 => [(0, .ref h_), (1, .ref h_p1), (2, .int p2), (3, .int p3), (4, .int x1)]) (fun v3 v4 => []) (fun v3 v4 => ?_) (fun k28 hk28 => ?_)
  · refine j_const C d6_turnRecursion_74 ?_
    refine j_istore C d6_turnRecursion_75 (by decide) (lv' := [(5, .int 0), (0, .ref h_), (1, .ref h_p1), (2, .int p2), (3, .int p3), (4, .int x1)]) rfl ?_
    refine j_join2 134 (fun v5 v6 => [(h_, .inr (6, [.ref h_codes, .int v6])), (h_codes, .inl (tc.1, 24, .inl v5)), (h_p1, .inr (6, [.ref h_p1_codes, .int c_p1_count])), (h_p1_codes, .inl (tc.1, 24, .inl c_p1_codes))]) (fun v5 v6 => [(0, .ref h_), (3, .int p3)]) (fun v5 v6 => []) (fun v5 v6 => ?_) (fun k10 hk10 => ?_)
    · refine j_aload C d6_turnRecursion_134 0 rfl ?_
      refine j_iload C d6_turnRecursion_135 1 rfl ?_
      refine j_callSI0 (As := [.int p3]) C d6_turnRecursion_136 ms6_29 (kX6_emptyOf _ _ tc p3) ⟨rfl, rfl, Nat.le_of_ble_eq_true rfl, Nat.le_of_ble_eq_true rfl⟩ rfl [] rfl rfl rfl (Nat.le_of_ble_eq_true rfl) (fun x7 => ?_)
      refine j_callVV2 (As := [.int x7]) C d6_turnRecursion_139 mv6_79 (kX6_add _ _ tc h_ h_codes v5 v6 x7) ⟨rfl, rfl, Nat.le_of_ble_eq_true rfl, Nat.le_of_ble_eq_true rfl⟩ rfl 0 rfl [0, 1] rfl rfl rfl (Nat.le_of_ble_eq_true rfl) (fun o8 o9 => [(h_, .inr (6, [.ref h_codes, .int o9])), (h_codes, .inl (tc.1, 24, .inl o8)), (h_p1, .inr (6, [.ref h_p1_codes, .int c_p1_count])), (h_p1_codes, .inl (tc.1, 24, .inl c_p1_codes))]) [(true, 0), (true, 1), (false, 2), (false, 3)] (fun _ => rfl) (by decide +kernel) (fun o8 o9 => ?_)
      exact j_vret C d6_turnRecursion_142 rfl
    · exact j_sub [1, 2, 3, 4, 5, 0] rfl (j_loop3 (fun v11 v12 v13 => [(h_, .inr (6, [.ref h_codes, .int v13])), (h_codes, .inl (tc.1, 24, .inl v12)), (h_p1, .inr (6, [.ref h_p1_codes, .int c_p1_count])), (h_p1_codes, .inl (tc.1, 24, .inl c_p1_codes))]) (fun v11 v12 v13 => [(0, .ref h_), (1, .ref h_p1), (2, .int p2), (3, .int p3), (4, .int x1), (5, .int v11)]) (fun rc14 hrc14 v11 v12 v13 => wX6_turnRecursion_77 C N h_ h_codes h_p1 h_p1_codes p2 p3 c_p1_codes c_p1_count x1 k10 hk10 rc14 hrc14 v11 v12 v13) N _ _ _)
  · exact j_sub [2, 3, 4, 5, 1, 0] rfl (j_loop3 (fun v29 v30 v31 => [(h_, .inr (6, [.ref h_codes, .int v31])), (h_codes, .inl (tc.1, 24, .inl v30)), (h_p1, .inr (6, [.ref h_p1_codes, .int c_p1_count])), (h_p1_codes, .inl (tc.1, 24, .inl c_p1_codes))]) (fun v29 v30 v31 => [(0, .ref h_), (1, .ref h_p1), (2, .int p2), (3, .int p3), (4, .int x1), (5, .int v29)]) (fun rc32 hrc32 v29 v30 v31 => wX6_turnRecursion_13 C h_ h_codes h_p1 h_p1_codes p2 p3 c_p1_codes c_p1_count x1 k28 hk28 rc32 hrc32 v29 v30 v31) N _ _ _)

theorem d7_become_0 : jda cX7_become 0 0 1 := Or.inl ⟨0, by decide +kernel⟩
theorem d7_become_1 : jda cX7_become 1 1 2 := Or.inl ⟨1, by decide +kernel⟩
theorem d7_become_2 : jd cX7_become 2 (.getfield 21) 3 5 := by decide +kernel
theorem d7_become_5 : jd cX7_become 5 (.putfield 21) 3 8 := by decide +kernel
theorem d7_become_8 : jda cX7_become 8 1 9 := Or.inl ⟨1, by decide +kernel⟩
theorem d7_become_9 : jd cX7_become 9 (.getfield 9) 3 12 := by decide +kernel
theorem d7_become_12 : jdk cX7_become 12 0 13 := Or.inl ⟨0, by decide +kernel⟩
theorem d7_become_13 : jda cX7_become 13 0 14 := Or.inl ⟨0, by decide +kernel⟩
theorem d7_become_14 : jd cX7_become 14 (.getfield 9) 3 17 := by decide +kernel
theorem d7_become_17 : jdk cX7_become 17 0 18 := Or.inl ⟨0, by decide +kernel⟩
theorem d7_become_18 : jdk cX7_become 18 8 20 := Or.inr (Or.inl ⟨8, by decide +kernel⟩)
theorem d7_become_20 : jd cX7_become 20 (.invokestatic 25) 3 23 := by decide +kernel
theorem d7_become_23 : jda cX7_become 23 1 24 := Or.inl ⟨1, by decide +kernel⟩
theorem d7_become_24 : jd cX7_become 24 (.getfield 15) 3 27 := by decide +kernel
theorem d7_become_27 : jdk cX7_become 27 0 28 := Or.inl ⟨0, by decide +kernel⟩
theorem d7_become_28 : jda cX7_become 28 0 29 := Or.inl ⟨0, by decide +kernel⟩
theorem d7_become_29 : jd cX7_become 29 (.getfield 15) 3 32 := by decide +kernel
theorem d7_become_32 : jdk cX7_become 32 0 33 := Or.inl ⟨0, by decide +kernel⟩
theorem d7_become_33 : jdk cX7_become 33 8 35 := Or.inr (Or.inl ⟨8, by decide +kernel⟩)
theorem d7_become_35 : jd cX7_become 35 (.invokestatic 25) 3 38 := by decide +kernel
theorem d7_become_38 : decode cX7_become 38 = .ok (.return_, 1) := by decide +kernel
set_option maxHeartbeats 4000000 in
set_option maxRecDepth 100000 in
theorem kX7_become (l : Launch) (D : va_G) (tc : jTC) (h_ h_first h_follow h_p1 h_p1_first h_p1_follow : Nat) (g_begins g_p1_begins : Value) (c_nullable : Int32) (c_first : (Nat → Int32)) (c_follow : (Nat → Int32)) (c_p1_nullable : Int32) (c_p1_first : (Nat → Int32)) (c_p1_follow : (Nat → Int32)) : ctV l D tc yX7_become (Cond.code yX7_become cX7_become 2 none :: jtb) ({ frames := 1, cells := 0, slots := 0, locals := 40 } : Room) [.ref h_, .ref h_p1] [(h_, .inr (7, [.int c_nullable, .ref h_first, .ref h_follow, g_begins])), (h_first, .inl (tc.1, 8, .inl c_first)), (h_follow, .inl (tc.1, 8, .inl c_follow)), (h_p1, .inr (7, [.int c_p1_nullable, .ref h_p1_first, .ref h_p1_follow, g_p1_begins])), (h_p1_first, .inl (tc.1, 8, .inl c_p1_first)), (h_p1_follow, .inl (tc.1, 8, .inl c_p1_follow))] (fX7_become c_nullable c_first c_follow c_p1_nullable c_p1_first c_p1_follow) (fun (u : Int32 × (Nat → Int32) × (Nat → Int32)) => [(h_, .inr (7, [.int u.1, .ref h_first, .ref h_follow, g_begins])), (h_first, .inl (tc.1, 8, .inl u.2.1)), (h_follow, .inl (tc.1, 8, .inl u.2.2)), (h_p1, .inr (7, [.int c_p1_nullable, .ref h_p1_first, .ref h_p1_follow, g_p1_begins])), (h_p1_first, .inl (tc.1, 8, .inl c_p1_first)), (h_p1_follow, .inl (tc.1, 8, .inl c_p1_follow))]) := by
  refine ctV_of (lv0 := [(0, .ref h_), (1, .ref h_p1)]) (by decide +kernel) (Nat.le_of_ble_eq_true rfl) rfl (fun X C => ?_)
  unfold fX7_become
  refine j_aload C d7_become_0 0 rfl ?_
  refine j_aload C d7_become_1 1 rfl ?_
  refine j_get C d7_become_2 fl7_21 3 rfl rfl ?_
  refine j_putq C d7_become_5 fq7_21 0 rfl rfl rfl (Nat.le_of_ble_eq_true rfl) (ws' := [(h_, .inr (7, [.int c_p1_nullable, .ref h_first, .ref h_follow, g_begins])), (h_first, .inl (tc.1, 8, .inl c_first)), (h_follow, .inl (tc.1, 8, .inl c_follow)), (h_p1, .inr (7, [.int c_p1_nullable, .ref h_p1_first, .ref h_p1_follow, g_p1_begins])), (h_p1_first, .inl (tc.1, 8, .inl c_p1_first)), (h_p1_follow, .inl (tc.1, 8, .inl c_p1_follow))]) rfl ?_
  refine j_aload C d7_become_8 1 rfl ?_
  refine j_get C d7_become_9 fl7_9 3 rfl rfl ?_
  refine j_const C d7_become_12 ?_
  refine j_aload C d7_become_13 0 rfl ?_
  refine j_get C d7_become_14 fl7_9 0 rfl rfl ?_
  refine j_const C d7_become_17 ?_
  refine j_const C d7_become_18 ?_
  refine j_copyi C (fun f1 => [(h_, .inr (7, [.int c_p1_nullable, .ref h_first, .ref h_follow, g_begins])), (h_first, .inl (tc.1, 8, .inl f1)), (h_follow, .inl (tc.1, 8, .inl c_follow)), (h_p1, .inr (7, [.int c_p1_nullable, .ref h_p1_first, .ref h_p1_follow, g_p1_begins])), (h_p1_first, .inl (tc.1, 8, .inl c_p1_first)), (h_p1_follow, .inl (tc.1, 8, .inl c_p1_follow))]) d7_become_20 kj7_25 ⟨Nat.le_of_ble_eq_true rfl, Nat.le_of_ble_eq_true rfl⟩ (Nat.le_of_ble_eq_true rfl) 4 1 rfl rfl (fun _ => rfl) (fun f1 => ?_)
  refine j_aload C d7_become_23 1 rfl ?_
  refine j_get C d7_become_24 fl7_15 3 rfl rfl ?_
  refine j_const C d7_become_27 ?_
  refine j_aload C d7_become_28 0 rfl ?_
  refine j_get C d7_become_29 fl7_15 0 rfl rfl ?_
  refine j_const C d7_become_32 ?_
  refine j_const C d7_become_33 ?_
  refine j_copyi C (fun f2 => [(h_, .inr (7, [.int c_p1_nullable, .ref h_first, .ref h_follow, g_begins])), (h_first, .inl (tc.1, 8, .inl f1)), (h_follow, .inl (tc.1, 8, .inl f2)), (h_p1, .inr (7, [.int c_p1_nullable, .ref h_p1_first, .ref h_p1_follow, g_p1_begins])), (h_p1_first, .inl (tc.1, 8, .inl c_p1_first)), (h_p1_follow, .inl (tc.1, 8, .inl c_p1_follow))]) d7_become_35 kj7_25 ⟨Nat.le_of_ble_eq_true rfl, Nat.le_of_ble_eq_true rfl⟩ (Nat.le_of_ble_eq_true rfl) 5 2 rfl rfl (fun _ => rfl) (fun f2 => ?_)
  exact j_vret C d7_become_38 rfl

theorem d7_differences_0 : jdk cX7_differences 0 0 1 := Or.inl ⟨0, by decide +kernel⟩
theorem d7_differences_1 : jds cX7_differences 1 2 2 := Or.inl ⟨2, by decide +kernel⟩
theorem d7_differences_2 : jdk cX7_differences 2 0 3 := Or.inl ⟨0, by decide +kernel⟩
theorem d7_differences_3 : jds cX7_differences 3 3 4 := Or.inl ⟨3, by decide +kernel⟩
theorem d7_differences_4 : jdi cX7_differences 4 3 5 := Or.inl ⟨3, by decide +kernel⟩
theorem d7_differences_5 : jdk cX7_differences 5 8 7 := Or.inr (Or.inl ⟨8, by decide +kernel⟩)
theorem d7_differences_7 : jdb cX7_differences 7 (.if_icmp .ge 73) 73 80 10 := by decide +kernel
theorem d7_differences_10 : jda cX7_differences 10 0 11 := Or.inl ⟨0, by decide +kernel⟩
theorem d7_differences_11 : jd cX7_differences 11 (.getfield 21) 3 14 := by decide +kernel
theorem d7_differences_14 : jdi cX7_differences 14 3 15 := Or.inl ⟨3, by decide +kernel⟩
theorem d7_differences_15 : jd cX7_differences 15 (.invokestatic 31) 3 18 := by decide +kernel
theorem d7_differences_18 : jda cX7_differences 18 1 19 := Or.inl ⟨1, by decide +kernel⟩
theorem d7_differences_19 : jd cX7_differences 19 (.getfield 21) 3 22 := by decide +kernel
theorem d7_differences_22 : jdi cX7_differences 22 3 23 := Or.inl ⟨3, by decide +kernel⟩
theorem d7_differences_23 : jd cX7_differences 23 (.invokestatic 31) 3 26 := by decide +kernel
theorem d7_differences_26 : jdb cX7_differences 26 (.if_icmp .ne 37) 37 63 29 := by decide +kernel
theorem d7_differences_29 : jda cX7_differences 29 0 30 := Or.inl ⟨0, by decide +kernel⟩
theorem d7_differences_30 : jd cX7_differences 30 (.getfield 9) 3 33 := by decide +kernel
theorem d7_differences_33 : jdi cX7_differences 33 3 34 := Or.inl ⟨3, by decide +kernel⟩
theorem d7_differences_34 : jd cX7_differences 34 (.iaload) 1 35 := by decide +kernel
theorem d7_differences_35 : jda cX7_differences 35 1 36 := Or.inl ⟨1, by decide +kernel⟩
theorem d7_differences_36 : jd cX7_differences 36 (.getfield 9) 3 39 := by decide +kernel
theorem d7_differences_39 : jdi cX7_differences 39 3 40 := Or.inl ⟨3, by decide +kernel⟩
theorem d7_differences_40 : jd cX7_differences 40 (.iaload) 1 41 := by decide +kernel
theorem d7_differences_41 : jdb cX7_differences 41 (.if_icmp .ne 22) 22 63 44 := by decide +kernel
theorem d7_differences_44 : jda cX7_differences 44 0 45 := Or.inl ⟨0, by decide +kernel⟩
theorem d7_differences_45 : jd cX7_differences 45 (.getfield 15) 3 48 := by decide +kernel
theorem d7_differences_48 : jdi cX7_differences 48 3 49 := Or.inl ⟨3, by decide +kernel⟩
theorem d7_differences_49 : jd cX7_differences 49 (.iaload) 1 50 := by decide +kernel
theorem d7_differences_50 : jda cX7_differences 50 1 51 := Or.inl ⟨1, by decide +kernel⟩
theorem d7_differences_51 : jd cX7_differences 51 (.getfield 15) 3 54 := by decide +kernel
theorem d7_differences_54 : jdi cX7_differences 54 3 55 := Or.inl ⟨3, by decide +kernel⟩
theorem d7_differences_55 : jd cX7_differences 55 (.iaload) 1 56 := by decide +kernel
theorem d7_differences_56 : jdb cX7_differences 56 (.if_icmp .ne 7) 7 63 59 := by decide +kernel
theorem d7_differences_59 : jdk cX7_differences 59 1 60 := Or.inl ⟨1, by decide +kernel⟩
theorem d7_differences_60 : jdb cX7_differences 60 (.goto 4) 4 64 63 := by decide +kernel
theorem d7_differences_63 : jdk cX7_differences 63 0 64 := Or.inl ⟨0, by decide +kernel⟩
theorem d7_differences_64 : jds cX7_differences 64 4 66 := Or.inr (by decide +kernel)
theorem d7_differences_66 : jdi cX7_differences 66 4 68 := Or.inr (by decide +kernel)
theorem d7_differences_68 : jdb cX7_differences 68 (.ifCond .ne 6) 6 74 71 := by decide +kernel
theorem d7_differences_71 : jd cX7_differences 71 (.iinc 2 1) 3 74 := by decide +kernel
theorem d7_differences_74 : jd cX7_differences 74 (.iinc 3 1) 3 77 := by decide +kernel
theorem d7_differences_77 : jdb cX7_differences 77 (.goto (-73)) (-73) 4 80 := by decide +kernel
theorem d7_differences_80 : jdi cX7_differences 80 2 81 := Or.inl ⟨2, by decide +kernel⟩
theorem d7_differences_81 : decode cX7_differences 81 = .ok (.ireturn, 1) := by decide +kernel
set_option maxHeartbeats 4000000 in
set_option maxRecDepth 100000 in
theorem wX7_differences_4 {X : jC} {tc : jTC} (C : jx X cX7_differences 5 RX7 (some .int) tc ({ frames := 1, cells := 0, slots := 0, locals := 21 } : Room)) (h_ h_first h_follow h_p1 h_p1_first h_p1_follow : Nat) (g_begins g_p1_begins : Value) (c_nullable : Int32) (c_first : (Nat → Int32)) (c_follow : (Nat → Int32)) (c_p1_nullable : Int32) (c_p1_first : (Nat → Int32)) (c_p1_follow : (Nat → Int32)) (k2 : (Int32 → Option (Int32))) (hk2 : ∀ (v20 : Int32), jo X 5 (0, 0) (jQI0 X [(h_, .inr (7, [.int c_nullable, .ref h_first, .ref h_follow, g_begins])), (h_first, .inl (tc.1, 8, .inl c_first)), (h_follow, .inl (tc.1, 8, .inl c_follow)), (h_p1, .inr (7, [.int c_p1_nullable, .ref h_p1_first, .ref h_p1_follow, g_p1_begins])), (h_p1_first, .inl (tc.1, 8, .inl c_p1_first)), (h_p1_follow, .inl (tc.1, 8, .inl c_p1_follow))]) (k2 v20) [(h_, .inr (7, [.int c_nullable, .ref h_first, .ref h_follow, g_begins])), (h_first, .inl (tc.1, 8, .inl c_first)), (h_follow, .inl (tc.1, 8, .inl c_follow)), (h_p1, .inr (7, [.int c_p1_nullable, .ref h_p1_first, .ref h_p1_follow, g_p1_begins])), (h_p1_first, .inl (tc.1, 8, .inl c_p1_first)), (h_p1_follow, .inl (tc.1, 8, .inl c_p1_follow))] 80 [(2, .int v20)] []) (rc5 : Int32 → Int32 → Option (Int32)) (hrc5 : ∀ (v3 : Int32) (v4 : Int32), jo X 5 (0, 0) (jQI0 X [(h_, .inr (7, [.int c_nullable, .ref h_first, .ref h_follow, g_begins])), (h_first, .inl (tc.1, 8, .inl c_first)), (h_follow, .inl (tc.1, 8, .inl c_follow)), (h_p1, .inr (7, [.int c_p1_nullable, .ref h_p1_first, .ref h_p1_follow, g_p1_begins])), (h_p1_first, .inl (tc.1, 8, .inl c_p1_first)), (h_p1_follow, .inl (tc.1, 8, .inl c_p1_follow))]) (rc5 v3 v4) [(h_, .inr (7, [.int c_nullable, .ref h_first, .ref h_follow, g_begins])), (h_first, .inl (tc.1, 8, .inl c_first)), (h_follow, .inl (tc.1, 8, .inl c_follow)), (h_p1, .inr (7, [.int c_p1_nullable, .ref h_p1_first, .ref h_p1_follow, g_p1_begins])), (h_p1_first, .inl (tc.1, 8, .inl c_p1_first)), (h_p1_follow, .inl (tc.1, 8, .inl c_p1_follow))] 4 [(0, .ref h_), (1, .ref h_p1), (2, .int v3), (3, .int v4)] []) (v3 : Int32) (v4 : Int32) : jo X 5 (0, 0) (jQI0 X [(h_, .inr (7, [.int c_nullable, .ref h_first, .ref h_follow, g_begins])), (h_first, .inl (tc.1, 8, .inl c_first)), (h_follow, .inl (tc.1, 8, .inl c_follow)), (h_p1, .inr (7, [.int c_p1_nullable, .ref h_p1_first, .ref h_p1_follow, g_p1_begins])), (h_p1_first, .inl (tc.1, 8, .inl c_p1_first)), (h_p1_follow, .inl (tc.1, 8, .inl c_p1_follow))]) (bX7_differences_4 c_nullable c_first c_follow c_p1_nullable c_p1_first c_p1_follow k2 rc5 v3 v4) [(h_, .inr (7, [.int c_nullable, .ref h_first, .ref h_follow, g_begins])), (h_first, .inl (tc.1, 8, .inl c_first)), (h_follow, .inl (tc.1, 8, .inl c_follow)), (h_p1, .inr (7, [.int c_p1_nullable, .ref h_p1_first, .ref h_p1_follow, g_p1_begins])), (h_p1_first, .inl (tc.1, 8, .inl c_p1_first)), (h_p1_follow, .inl (tc.1, 8, .inl c_p1_follow))] 4 [(0, .ref h_), (1, .ref h_p1), (2, .int v3), (3, .int v4)] [] := by
  unfold bX7_differences_4
  refine j_iload C d7_differences_4 3 rfl ?_
  refine j_const C d7_differences_5 ?_
  refine j_icmp_ge C d7_differences_7 ?_ ?_
  · exact j_sub [2] rfl (hk2 _)
  · refine j_aload C d7_differences_10 0 rfl ?_
    refine j_get C d7_differences_11 fl7_21 0 rfl rfl ?_
    refine j_iload C d7_differences_14 3 rfl ?_
    refine j_callNI0 (As := [.int c_nullable, .int v4]) C d7_differences_15 mn7_31 (kX11_bit _ _ tc c_nullable v4) ⟨rfl, rfl, Nat.le_of_ble_eq_true rfl, Nat.le_of_ble_eq_true rfl⟩ rfl [] rfl rfl rfl (Nat.le_of_ble_eq_true rfl) (fun x6 => ?_)
    refine j_aload C d7_differences_18 1 rfl ?_
    refine j_get C d7_differences_19 fl7_21 3 rfl rfl ?_
    refine j_iload C d7_differences_22 3 rfl ?_
    refine j_callNI0 (As := [.int c_p1_nullable, .int v4]) C d7_differences_23 mn7_31 (kX11_bit _ _ tc c_p1_nullable v4) ⟨rfl, rfl, Nat.le_of_ble_eq_true rfl, Nat.le_of_ble_eq_true rfl⟩ rfl [] rfl rfl rfl (Nat.le_of_ble_eq_true rfl) (fun x7 => ?_)
    refine j_join 64 (fun v8 => [(h_, .inr (7, [.int c_nullable, .ref h_first, .ref h_follow, g_begins])), (h_first, .inl (tc.1, 8, .inl c_first)), (h_follow, .inl (tc.1, 8, .inl c_follow)), (h_p1, .inr (7, [.int c_p1_nullable, .ref h_p1_first, .ref h_p1_follow, g_p1_begins])), (h_p1_first, .inl (tc.1, 8, .inl c_p1_first)), (h_p1_follow, .inl (tc.1, 8, .inl c_p1_follow))]) (fun v8 => [(0, .ref h_), (1, .ref h_p1), (2, .int v3), (3, .int v4)]) (fun v8 => [.int v8]) (fun v8 => ?_) (fun k13 hk13 => ?_)
    · refine j_istore C d7_differences_64 (by decide) (lv' := [(4, .int v8), (0, .ref h_), (1, .ref h_p1), (2, .int v3), (3, .int v4)]) rfl ?_
      refine j_iload C d7_differences_66 0 rfl ?_
      refine j_join 74 (fun v9 => [(h_, .inr (7, [.int c_nullable, .ref h_first, .ref h_follow, g_begins])), (h_first, .inl (tc.1, 8, .inl c_first)), (h_follow, .inl (tc.1, 8, .inl c_follow)), (h_p1, .inr (7, [.int c_p1_nullable, .ref h_p1_first, .ref h_p1_follow, g_p1_begins])), (h_p1_first, .inl (tc.1, 8, .inl c_p1_first)), (h_p1_follow, .inl (tc.1, 8, .inl c_p1_follow))]) (fun v9 => [(0, .ref h_), (1, .ref h_p1), (2, .int v9), (3, .int v4)]) (fun v9 => []) (fun v9 => ?_) (fun k11 hk11 => ?_)
      · refine j_iincN C (fun x10 => [(3, .int x10), (0, .ref h_), (1, .ref h_p1), (2, .int v9)]) d7_differences_74 3 rfl (by decide +kernel) (by decide) (fun _ => rfl) (fun x10 => ?_)
        refine j_goto C d7_differences_77 ?_
        exact j_sub [1, 2, 3, 0] rfl (hrc5 _ _)
      · refine j_if_ne C d7_differences_68 ?_ ?_
        · exact j_sub [1, 2, 3, 4] rfl (hk11 _)
        · refine j_iincN C (fun x12 => [(2, .int x12), (4, .int v8), (0, .ref h_), (1, .ref h_p1), (3, .int v4)]) d7_differences_71 3 rfl (by decide +kernel) (by decide) (fun _ => rfl) (fun x12 => ?_)
          exact j_sub [2, 3, 0, 4] rfl (hk11 _)
    · refine j_join 63 (fun v14 => [(h_, .inr (7, [.int c_nullable, .ref h_first, .ref h_follow, g_begins])), (h_first, .inl (tc.1, 8, .inl c_first)), (h_follow, .inl (tc.1, 8, .inl c_follow)), (h_p1, .inr (7, [.int c_p1_nullable, .ref h_p1_first, .ref h_p1_follow, g_p1_begins])), (h_p1_first, .inl (tc.1, 8, .inl c_p1_first)), (h_p1_follow, .inl (tc.1, 8, .inl c_p1_follow))]) (fun v14 => [(0, .ref h_), (1, .ref h_p1), (2, .int v3), (3, .int v4)]) (fun v14 => []) (fun v14 => ?_) (fun k15 hk15 => ?_)
      · refine j_const C d7_differences_63 ?_
        exact hk13 _
      · refine j_icmp_ne C d7_differences_26 ?_ ?_
        · exact hk15 _
        · refine j_aload C d7_differences_29 0 rfl ?_
          refine j_get C d7_differences_30 fl7_9 0 rfl rfl ?_
          refine j_iload C d7_differences_33 3 rfl ?_
          refine j_iald C d7_differences_34 1 rfl (fun x16 => ?_)
          refine j_aload C d7_differences_35 1 rfl ?_
          refine j_get C d7_differences_36 fl7_9 3 rfl rfl ?_
          refine j_iload C d7_differences_39 3 rfl ?_
          refine j_iald C d7_differences_40 4 rfl (fun x17 => ?_)
          refine j_icmp_ne C d7_differences_41 ?_ ?_
          · exact hk15 _
          · refine j_aload C d7_differences_44 0 rfl ?_
            refine j_get C d7_differences_45 fl7_15 0 rfl rfl ?_
            refine j_iload C d7_differences_48 3 rfl ?_
            refine j_iald C d7_differences_49 2 rfl (fun x18 => ?_)
            refine j_aload C d7_differences_50 1 rfl ?_
            refine j_get C d7_differences_51 fl7_15 3 rfl rfl ?_
            refine j_iload C d7_differences_54 3 rfl ?_
            refine j_iald C d7_differences_55 5 rfl (fun x19 => ?_)
            refine j_icmp_ne C d7_differences_56 ?_ ?_
            · exact hk15 _
            · refine j_const C d7_differences_59 ?_
              refine j_goto C d7_differences_60 ?_
              exact hk13 _

set_option maxHeartbeats 4000000 in
set_option maxRecDepth 100000 in
theorem kX7_differences (l : Launch) (D : va_G) (tc : jTC) (N : Nat) (h_ h_first h_follow h_p1 h_p1_first h_p1_follow : Nat) (g_begins g_p1_begins : Value) (c_nullable : Int32) (c_first : (Nat → Int32)) (c_follow : (Nat → Int32)) (c_p1_nullable : Int32) (c_p1_first : (Nat → Int32)) (c_p1_follow : (Nat → Int32)) : ctI0 l D tc yX7_differences (Cond.code yX7_differences cX7_differences 5 (some .int) :: jtb) ({ frames := 1, cells := 0, slots := 0, locals := 21 } : Room) [.ref h_, .ref h_p1] [(h_, .inr (7, [.int c_nullable, .ref h_first, .ref h_follow, g_begins])), (h_first, .inl (tc.1, 8, .inl c_first)), (h_follow, .inl (tc.1, 8, .inl c_follow)), (h_p1, .inr (7, [.int c_p1_nullable, .ref h_p1_first, .ref h_p1_follow, g_p1_begins])), (h_p1_first, .inl (tc.1, 8, .inl c_p1_first)), (h_p1_follow, .inl (tc.1, 8, .inl c_p1_follow))] (fX7_differences N c_nullable c_first c_follow c_p1_nullable c_p1_first c_p1_follow) := by
  refine ctI0_of (lv0 := [(0, .ref h_), (1, .ref h_p1)]) (by decide +kernel) (Nat.le_of_ble_eq_true rfl) rfl (fun X C => ?_)
  unfold fX7_differences
  refine j_const C d7_differences_0 ?_
  refine j_istore C d7_differences_1 (by decide) (lv' := [(2, .int 0), (0, .ref h_), (1, .ref h_p1)]) rfl ?_
  refine j_const C d7_differences_2 ?_
  refine j_istore C d7_differences_3 (by decide) (lv' := [(3, .int 0), (2, .int 0), (0, .ref h_), (1, .ref h_p1)]) rfl ?_
  refine j_join 80 (fun v1 => [(h_, .inr (7, [.int c_nullable, .ref h_first, .ref h_follow, g_begins])), (h_first, .inl (tc.1, 8, .inl c_first)), (h_follow, .inl (tc.1, 8, .inl c_follow)), (h_p1, .inr (7, [.int c_p1_nullable, .ref h_p1_first, .ref h_p1_follow, g_p1_begins])), (h_p1_first, .inl (tc.1, 8, .inl c_p1_first)), (h_p1_follow, .inl (tc.1, 8, .inl c_p1_follow))]) (fun v1 => [(2, .int v1)]) (fun v1 => []) (fun v1 => ?_) (fun k2 hk2 => ?_)
  · refine j_iload C d7_differences_80 0 rfl ?_
    exact j_iret0 C d7_differences_81
  · exact j_sub [2, 3, 1, 0] rfl (j_loop2 (fun v3 v4 => [(h_, .inr (7, [.int c_nullable, .ref h_first, .ref h_follow, g_begins])), (h_first, .inl (tc.1, 8, .inl c_first)), (h_follow, .inl (tc.1, 8, .inl c_follow)), (h_p1, .inr (7, [.int c_p1_nullable, .ref h_p1_first, .ref h_p1_follow, g_p1_begins])), (h_p1_first, .inl (tc.1, 8, .inl c_p1_first)), (h_p1_follow, .inl (tc.1, 8, .inl c_p1_follow))]) (fun v3 v4 => [(0, .ref h_), (1, .ref h_p1), (2, .int v3), (3, .int v4)]) (fun rc5 hrc5 v3 v4 => wX7_differences_4 C h_ h_first h_follow h_p1 h_p1_first h_p1_follow g_begins g_p1_begins c_nullable c_first c_follow c_p1_nullable c_p1_first c_p1_follow k2 hk2 rc5 hrc5 v3 v4) N _ _)

theorem d7_isNullable_0 : jdi cX7_isNullable 0 1 1 := Or.inl ⟨1, by decide +kernel⟩
theorem d7_isNullable_1 : jdk cX7_isNullable 1 10 3 := Or.inr (Or.inl ⟨10, by decide +kernel⟩)
theorem d7_isNullable_3 : jdb cX7_isNullable 3 (.if_icmp .lt 22) 22 25 6 := by decide +kernel
theorem d7_isNullable_6 : jda cX7_isNullable 6 0 7 := Or.inl ⟨0, by decide +kernel⟩
theorem d7_isNullable_7 : jd cX7_isNullable 7 (.getfield 21) 3 10 := by decide +kernel
theorem d7_isNullable_10 : jdi cX7_isNullable 10 1 11 := Or.inl ⟨1, by decide +kernel⟩
theorem d7_isNullable_11 : jdk cX7_isNullable 11 10 13 := Or.inr (Or.inl ⟨10, by decide +kernel⟩)
theorem d7_isNullable_13 : jd cX7_isNullable 13 (.isub) 1 14 := by decide +kernel
theorem d7_isNullable_14 : jd cX7_isNullable 14 (.invokestatic 31) 3 17 := by decide +kernel
theorem d7_isNullable_17 : jdk cX7_isNullable 17 1 18 := Or.inl ⟨1, by decide +kernel⟩
theorem d7_isNullable_18 : jdb cX7_isNullable 18 (.if_icmp .ne 7) 7 25 21 := by decide +kernel
theorem d7_isNullable_21 : jdk cX7_isNullable 21 1 22 := Or.inl ⟨1, by decide +kernel⟩
theorem d7_isNullable_22 : jdb cX7_isNullable 22 (.goto 4) 4 26 25 := by decide +kernel
theorem d7_isNullable_25 : jdk cX7_isNullable 25 0 26 := Or.inl ⟨0, by decide +kernel⟩
theorem d7_isNullable_26 : decode cX7_isNullable 26 = .ok (.ireturn, 1) := by decide +kernel
set_option maxHeartbeats 4000000 in
set_option maxRecDepth 100000 in
theorem kX7_isNullable (l : Launch) (D : va_G) (tc : jTC) (h_ : Nat) (g_first g_follow g_begins : Value) (c_nullable : Int32) (p1 : Int32) : ctI0 l D tc yX7_isNullable (Cond.code yX7_isNullable cX7_isNullable 2 (some .boolean) :: jtb) ({ frames := 1, cells := 0, slots := 0, locals := 21 } : Room) [.ref h_, .int p1] [(h_, .inr (7, [.int c_nullable, g_first, g_follow, g_begins]))] (fX7_isNullable c_nullable p1) := by
  refine ctI0_of (lv0 := [(0, .ref h_), (1, .int p1)]) (by decide +kernel) (Nat.le_of_ble_eq_true rfl) rfl (fun X C => ?_)
  unfold fX7_isNullable
  refine j_iload C d7_isNullable_0 1 rfl ?_
  refine j_const C d7_isNullable_1 ?_
  refine j_join 26 (fun v1 => [(h_, .inr (7, [.int c_nullable, g_first, g_follow, g_begins]))]) (fun v1 => []) (fun v1 => [.int v1]) (fun v1 => ?_) (fun k2 hk2 => ?_)
  · refine j_gz (fun hz => ?_)
    exact j_zret0 C hz d7_isNullable_26
  · refine j_join 25 (fun v3 => [(h_, .inr (7, [.int c_nullable, g_first, g_follow, g_begins]))]) (fun v3 => []) (fun v3 => []) (fun v3 => ?_) (fun k4 hk4 => ?_)
    · refine j_const C d7_isNullable_25 ?_
      exact hk2 _
    · refine j_icmp_lt C d7_isNullable_3 ?_ ?_
      · exact j_sub [] rfl (hk4 _)
      · refine j_aload C d7_isNullable_6 0 rfl ?_
        refine j_get C d7_isNullable_7 fl7_21 0 rfl rfl ?_
        refine j_iload C d7_isNullable_10 1 rfl ?_
        refine j_const C d7_isNullable_11 ?_
        refine j_isub C d7_isNullable_13 ?_
        refine j_callNI0 (As := [.int c_nullable, .int (p1 - (10 : Int32))]) C d7_isNullable_14 mn7_31 (kX11_bit _ _ tc c_nullable (p1 - (10 : Int32))) ⟨rfl, rfl, Nat.le_of_ble_eq_true rfl, Nat.le_of_ble_eq_true rfl⟩ rfl [] rfl rfl rfl (Nat.le_of_ble_eq_true rfl) (fun x5 => ?_)
        refine j_const C d7_isNullable_17 ?_
        refine j_icmp_ne C d7_isNullable_18 ?_ ?_
        · exact j_sub [] rfl (hk4 _)
        · refine j_const C d7_isNullable_21 ?_
          refine j_goto C d7_isNullable_22 ?_
          exact j_sub [] rfl (hk2 _)

theorem d7_vanishes_0 : jdi cX7_vanishes 0 2 1 := Or.inl ⟨2, by decide +kernel⟩
theorem d7_vanishes_1 : jds cX7_vanishes 1 3 2 := Or.inl ⟨3, by decide +kernel⟩
theorem d7_vanishes_2 : jdi cX7_vanishes 2 3 3 := Or.inl ⟨3, by decide +kernel⟩
theorem d7_vanishes_3 : jdi cX7_vanishes 3 1 4 := Or.inl ⟨1, by decide +kernel⟩
theorem d7_vanishes_4 : jd cX7_vanishes 4 (.invokestatic 68) 3 7 := by decide +kernel
theorem d7_vanishes_7 : jdb cX7_vanishes 7 (.if_icmp .ge 23) 23 30 10 := by decide +kernel
theorem d7_vanishes_10 : jda cX7_vanishes 10 0 11 := Or.inl ⟨0, by decide +kernel⟩
theorem d7_vanishes_11 : jdi cX7_vanishes 11 1 12 := Or.inl ⟨1, by decide +kernel⟩
theorem d7_vanishes_12 : jdi cX7_vanishes 12 3 13 := Or.inl ⟨3, by decide +kernel⟩
theorem d7_vanishes_13 : jd cX7_vanishes 13 (.invokestatic 71) 3 16 := by decide +kernel
theorem d7_vanishes_16 : jd cX7_vanishes 16 (.invokevirtual 74) 3 19 := by decide +kernel
theorem d7_vanishes_19 : jdb cX7_vanishes 19 (.ifCond .ne 5) 5 24 22 := by decide +kernel
theorem d7_vanishes_22 : jdk cX7_vanishes 22 0 23 := Or.inl ⟨0, by decide +kernel⟩
theorem d7_vanishes_23 : decode cX7_vanishes 23 = .ok (.ireturn, 1) := by decide +kernel
theorem d7_vanishes_24 : jd cX7_vanishes 24 (.iinc 3 1) 3 27 := by decide +kernel
theorem d7_vanishes_27 : jdb cX7_vanishes 27 (.goto (-25)) (-25) 2 30 := by decide +kernel
theorem d7_vanishes_30 : jdk cX7_vanishes 30 1 31 := Or.inl ⟨1, by decide +kernel⟩
theorem d7_vanishes_31 : decode cX7_vanishes 31 = .ok (.ireturn, 1) := by decide +kernel
set_option maxHeartbeats 4000000 in
set_option maxRecDepth 100000 in
theorem wX7_vanishes_2 {X : jC} {tc : jTC} (C : jx X cX7_vanishes 4 RX7 (some .boolean) tc ({ frames := 2, cells := 0, slots := 0, locals := 42 } : Room)) (h_ : Nat) (g_first g_follow g_begins : Value) (p1 : Int32) (c_nullable : Int32) (k2 : (Unit → Option (Int32))) (hk2 : ∀ (v9 : Unit), jo X 4 (0, 0) (jQI0 X [(h_, .inr (7, [.int c_nullable, g_first, g_follow, g_begins]))]) (k2 v9) [(h_, .inr (7, [.int c_nullable, g_first, g_follow, g_begins]))] 30 [] []) (rc4 : Int32 → Option (Int32)) (hrc4 : ∀ (v3 : Int32), jo X 4 (0, 0) (jQI0 X [(h_, .inr (7, [.int c_nullable, g_first, g_follow, g_begins]))]) (rc4 v3) [(h_, .inr (7, [.int c_nullable, g_first, g_follow, g_begins]))] 2 [(0, .ref h_), (1, .int p1), (3, .int v3)] []) (v3 : Int32) : jo X 4 (0, 0) (jQI0 X [(h_, .inr (7, [.int c_nullable, g_first, g_follow, g_begins]))]) (bX7_vanishes_2 p1 c_nullable k2 rc4 v3) [(h_, .inr (7, [.int c_nullable, g_first, g_follow, g_begins]))] 2 [(0, .ref h_), (1, .int p1), (3, .int v3)] [] := by
  unfold bX7_vanishes_2
  refine j_iload C d7_vanishes_2 2 rfl ?_
  refine j_iload C d7_vanishes_3 1 rfl ?_
  refine j_callSI0 (As := [.int p1]) C d7_vanishes_4 ms7_68 (kX6_lengthOf _ _ tc p1) ⟨rfl, rfl, Nat.le_of_ble_eq_true rfl, Nat.le_of_ble_eq_true rfl⟩ rfl [] rfl rfl rfl (Nat.le_of_ble_eq_true rfl) (fun x5 => ?_)
  refine j_icmp_ge C d7_vanishes_7 ?_ ?_
  · exact j_sub [] rfl (hk2 _)
  · refine j_aload C d7_vanishes_10 0 rfl ?_
    refine j_iload C d7_vanishes_11 1 rfl ?_
    refine j_iload C d7_vanishes_12 2 rfl ?_
    refine j_callSI0 (As := [.int p1, .int v3]) C d7_vanishes_13 ms7_71 (kX6_symbolOf _ _ tc p1 v3) ⟨rfl, rfl, Nat.le_of_ble_eq_true rfl, Nat.le_of_ble_eq_true rfl⟩ rfl [] rfl rfl rfl (Nat.le_of_ble_eq_true rfl) (fun x6 => ?_)
    refine j_callVI0 (As := [.int x6]) C d7_vanishes_16 mv7_74 (kX7_isNullable _ _ tc h_ g_first g_follow g_begins c_nullable x6) ⟨rfl, rfl, Nat.le_of_ble_eq_true rfl, Nat.le_of_ble_eq_true rfl⟩ rfl 0 rfl [0] rfl rfl rfl (Nat.le_of_ble_eq_true rfl) (fun x7 => ?_)
    refine j_if_ne C d7_vanishes_19 ?_ ?_
    · refine j_iincN C (fun x8 => [(3, .int x8), (0, .ref h_), (1, .int p1)]) d7_vanishes_24 2 rfl (by decide +kernel) (by decide) (fun _ => rfl) (fun x8 => ?_)
      refine j_goto C d7_vanishes_27 ?_
      exact j_sub [1, 2, 0] rfl (hrc4 _)
    · refine j_const C d7_vanishes_22 ?_
      exact j_zret0 C (by decide) d7_vanishes_23

set_option maxHeartbeats 4000000 in
set_option maxRecDepth 100000 in
theorem kX7_vanishes (l : Launch) (D : va_G) (tc : jTC) (N : Nat) (h_ : Nat) (g_first g_follow g_begins : Value) (c_nullable : Int32) (p1 : Int32) (p2 : Int32) : ctI0 l D tc yX7_vanishes (Cond.code yX7_vanishes cX7_vanishes 4 (some .boolean) :: jtb) ({ frames := 2, cells := 0, slots := 0, locals := 42 } : Room) [.ref h_, .int p1, .int p2] [(h_, .inr (7, [.int c_nullable, g_first, g_follow, g_begins]))] (fX7_vanishes N c_nullable p1 p2) := by
  refine ctI0_of (lv0 := [(0, .ref h_), (1, .int p1), (2, .int p2)]) (by decide +kernel) (Nat.le_of_ble_eq_true rfl) rfl (fun X C => ?_)
  unfold fX7_vanishes
  refine j_iload C d7_vanishes_0 2 rfl ?_
  refine j_istore C d7_vanishes_1 (by decide) (lv' := [(3, .int p2), (0, .ref h_), (1, .int p1), (2, .int p2)]) rfl ?_
  refine j_join 30 (fun v1 => [(h_, .inr (7, [.int c_nullable, g_first, g_follow, g_begins]))]) (fun v1 => []) (fun v1 => []) (fun v1 => ?_) (fun k2 hk2 => ?_)
  · refine j_const C d7_vanishes_30 ?_
    exact j_zret0 C (by decide) d7_vanishes_31
  · exact j_sub [1, 2, 0] rfl (j_loop (fun v3 => [(h_, .inr (7, [.int c_nullable, g_first, g_follow, g_begins]))]) (fun v3 => [(0, .ref h_), (1, .int p1), (3, .int v3)]) (fun rc4 hrc4 v3 => wX7_vanishes_2 C h_ g_first g_follow g_begins p1 c_nullable k2 hk2 rc4 hrc4 v3) N _)

theorem d7_computeNullable_0 : jdk cX7_computeNullable 0 1 1 := Or.inl ⟨1, by decide +kernel⟩
theorem d7_computeNullable_1 : jds cX7_computeNullable 1 2 2 := Or.inl ⟨2, by decide +kernel⟩
theorem d7_computeNullable_2 : jdk cX7_computeNullable 2 0 3 := Or.inl ⟨0, by decide +kernel⟩
theorem d7_computeNullable_3 : jds cX7_computeNullable 3 3 4 := Or.inl ⟨3, by decide +kernel⟩
theorem d7_computeNullable_4 : jdi cX7_computeNullable 4 3 5 := Or.inl ⟨3, by decide +kernel⟩
theorem d7_computeNullable_5 : jdk cX7_computeNullable 5 1000 8 := Or.inr (Or.inr ⟨1000, by decide +kernel⟩)
theorem d7_computeNullable_8 : jdb cX7_computeNullable 8 (.if_icmp .ge 88) 88 96 11 := by decide +kernel
theorem d7_computeNullable_11 : jdi cX7_computeNullable 11 2 12 := Or.inl ⟨2, by decide +kernel⟩
theorem d7_computeNullable_12 : jdb cX7_computeNullable 12 (.ifCond .eq 84) 84 96 15 := by decide +kernel
theorem d7_computeNullable_15 : jda cX7_computeNullable 15 0 16 := Or.inl ⟨0, by decide +kernel⟩
theorem d7_computeNullable_16 : jd cX7_computeNullable 16 (.getfield 21) 3 19 := by decide +kernel
theorem d7_computeNullable_19 : jds cX7_computeNullable 19 4 21 := Or.inr (by decide +kernel)
theorem d7_computeNullable_21 : jdk cX7_computeNullable 21 0 22 := Or.inl ⟨0, by decide +kernel⟩
theorem d7_computeNullable_22 : jds cX7_computeNullable 22 5 24 := Or.inr (by decide +kernel)
theorem d7_computeNullable_24 : jdi cX7_computeNullable 24 5 26 := Or.inr (by decide +kernel)
theorem d7_computeNullable_26 : jda cX7_computeNullable 26 1 27 := Or.inl ⟨1, by decide +kernel⟩
theorem d7_computeNullable_27 : jd cX7_computeNullable 27 (.getfield 45) 3 30 := by decide +kernel
theorem d7_computeNullable_30 : jdb cX7_computeNullable 30 (.if_icmp .ge 45) 45 75 33 := by decide +kernel
theorem d7_computeNullable_33 : jda cX7_computeNullable 33 0 34 := Or.inl ⟨0, by decide +kernel⟩
theorem d7_computeNullable_34 : jda cX7_computeNullable 34 1 35 := Or.inl ⟨1, by decide +kernel⟩
theorem d7_computeNullable_35 : jd cX7_computeNullable 35 (.getfield 50) 3 38 := by decide +kernel
theorem d7_computeNullable_38 : jdi cX7_computeNullable 38 5 40 := Or.inr (by decide +kernel)
theorem d7_computeNullable_40 : jd cX7_computeNullable 40 (.iaload) 1 41 := by decide +kernel
theorem d7_computeNullable_41 : jdk cX7_computeNullable 41 0 42 := Or.inl ⟨0, by decide +kernel⟩
theorem d7_computeNullable_42 : jd cX7_computeNullable 42 (.invokevirtual 53) 3 45 := by decide +kernel
theorem d7_computeNullable_45 : jdb cX7_computeNullable 45 (.ifCond .eq 24) 24 69 48 := by decide +kernel
theorem d7_computeNullable_48 : jda cX7_computeNullable 48 0 49 := Or.inl ⟨0, by decide +kernel⟩
theorem d7_computeNullable_49 : jd cX7_computeNullable 49 (.dup) 1 50 := by decide +kernel
theorem d7_computeNullable_50 : jd cX7_computeNullable 50 (.getfield 21) 3 53 := by decide +kernel
theorem d7_computeNullable_53 : jdk cX7_computeNullable 53 1 54 := Or.inl ⟨1, by decide +kernel⟩
theorem d7_computeNullable_54 : jda cX7_computeNullable 54 1 55 := Or.inl ⟨1, by decide +kernel⟩
theorem d7_computeNullable_55 : jd cX7_computeNullable 55 (.getfield 50) 3 58 := by decide +kernel
theorem d7_computeNullable_58 : jdi cX7_computeNullable 58 5 60 := Or.inr (by decide +kernel)
theorem d7_computeNullable_60 : jd cX7_computeNullable 60 (.iaload) 1 61 := by decide +kernel
theorem d7_computeNullable_61 : jd cX7_computeNullable 61 (.invokestatic 57) 3 64 := by decide +kernel
theorem d7_computeNullable_64 : jd cX7_computeNullable 64 (.ishl) 1 65 := by decide +kernel
theorem d7_computeNullable_65 : jd cX7_computeNullable 65 (.ior) 1 66 := by decide +kernel
theorem d7_computeNullable_66 : jd cX7_computeNullable 66 (.putfield 21) 3 69 := by decide +kernel
theorem d7_computeNullable_69 : jd cX7_computeNullable 69 (.iinc 5 1) 3 72 := by decide +kernel
theorem d7_computeNullable_72 : jdb cX7_computeNullable 72 (.goto (-48)) (-48) 24 75 := by decide +kernel
theorem d7_computeNullable_75 : jda cX7_computeNullable 75 0 76 := Or.inl ⟨0, by decide +kernel⟩
theorem d7_computeNullable_76 : jd cX7_computeNullable 76 (.getfield 21) 3 79 := by decide +kernel
theorem d7_computeNullable_79 : jdi cX7_computeNullable 79 4 81 := Or.inr (by decide +kernel)
theorem d7_computeNullable_81 : jdb cX7_computeNullable 81 (.if_icmp .eq 7) 7 88 84 := by decide +kernel
theorem d7_computeNullable_84 : jdk cX7_computeNullable 84 1 85 := Or.inl ⟨1, by decide +kernel⟩
theorem d7_computeNullable_85 : jdb cX7_computeNullable 85 (.goto 4) 4 89 88 := by decide +kernel
theorem d7_computeNullable_88 : jdk cX7_computeNullable 88 0 89 := Or.inl ⟨0, by decide +kernel⟩
theorem d7_computeNullable_89 : jds cX7_computeNullable 89 2 90 := Or.inl ⟨2, by decide +kernel⟩
theorem d7_computeNullable_90 : jd cX7_computeNullable 90 (.iinc 3 1) 3 93 := by decide +kernel
theorem d7_computeNullable_93 : jdb cX7_computeNullable 93 (.goto (-89)) (-89) 4 96 := by decide +kernel
theorem d7_computeNullable_96 : decode cX7_computeNullable 96 = .ok (.return_, 1) := by decide +kernel
set_option maxHeartbeats 4000000 in
set_option maxRecDepth 100000 in
theorem wX7_computeNullable_24 {X : jC} {tc : jTC} (C : jx X cX7_computeNullable 6 RX7 none tc ({ frames := 3, cells := 0, slots := 0, locals := 65 } : Room)) (N : Nat) (h_ h_p1 h_p1_codes : Nat) (g_first g_follow g_begins : Value) (c_p1_codes : (Nat → Int32)) (c_p1_count : Int32) (v4 : Int32) (v5 : Int32) (k11 : (Int32 → Option (Int32))) (hk11 : ∀ (v23 : Int32), jo X 6 (0, 0) (jQV X (fun (u : Int32) => [(h_, .inr (7, [.int u, g_first, g_follow, g_begins])), (h_p1, .inr (6, [.ref h_p1_codes, .int c_p1_count])), (h_p1_codes, .inl (tc.1, 24, .inl c_p1_codes))])) (k11 v23) [(h_, .inr (7, [.int v23, g_first, g_follow, g_begins])), (h_p1, .inr (6, [.ref h_p1_codes, .int c_p1_count])), (h_p1_codes, .inl (tc.1, 24, .inl c_p1_codes))] 75 [(0, .ref h_), (1, .ref h_p1), (3, .int v4), (4, .int v5)] []) (rc14 : Int32 → Int32 → Option (Int32)) (hrc14 : ∀ (v12 : Int32) (v13 : Int32), jo X 6 (0, 0) (jQV X (fun (u : Int32) => [(h_, .inr (7, [.int u, g_first, g_follow, g_begins])), (h_p1, .inr (6, [.ref h_p1_codes, .int c_p1_count])), (h_p1_codes, .inl (tc.1, 24, .inl c_p1_codes))])) (rc14 v12 v13) [(h_, .inr (7, [.int v13, g_first, g_follow, g_begins])), (h_p1, .inr (6, [.ref h_p1_codes, .int c_p1_count])), (h_p1_codes, .inl (tc.1, 24, .inl c_p1_codes))] 24 [(0, .ref h_), (1, .ref h_p1), (3, .int v4), (4, .int v5), (5, .int v12)] []) (v12 : Int32) (v13 : Int32) : jo X 6 (0, 0) (jQV X (fun (u : Int32) => [(h_, .inr (7, [.int u, g_first, g_follow, g_begins])), (h_p1, .inr (6, [.ref h_p1_codes, .int c_p1_count])), (h_p1_codes, .inl (tc.1, 24, .inl c_p1_codes))])) (bX7_computeNullable_24 N c_p1_codes c_p1_count k11 rc14 v12 v13) [(h_, .inr (7, [.int v13, g_first, g_follow, g_begins])), (h_p1, .inr (6, [.ref h_p1_codes, .int c_p1_count])), (h_p1_codes, .inl (tc.1, 24, .inl c_p1_codes))] 24 [(0, .ref h_), (1, .ref h_p1), (3, .int v4), (4, .int v5), (5, .int v12)] [] := by
  unfold bX7_computeNullable_24
  refine j_iload C d7_computeNullable_24 4 rfl ?_
  refine j_aload C d7_computeNullable_26 1 rfl ?_
  refine j_get C d7_computeNullable_27 fl7_45 1 rfl rfl ?_
  refine j_icmp_ge C d7_computeNullable_30 ?_ ?_
  · exact j_sub [0, 1, 2, 3] rfl (hk11 _)
  · refine j_aload C d7_computeNullable_33 0 rfl ?_
    refine j_aload C d7_computeNullable_34 1 rfl ?_
    refine j_get C d7_computeNullable_35 fl7_50 1 rfl rfl ?_
    refine j_iload C d7_computeNullable_38 4 rfl ?_
    refine j_iald C d7_computeNullable_40 2 rfl (fun x15 => ?_)
    refine j_const C d7_computeNullable_41 ?_
    refine j_callVI0 (As := [.int x15, .int 0]) C d7_computeNullable_42 mv7_53 (kX7_vanishes _ _ tc N h_ g_first g_follow g_begins v13 x15 0) ⟨rfl, rfl, Nat.le_of_ble_eq_true rfl, Nat.le_of_ble_eq_true rfl⟩ rfl 0 rfl [0] rfl rfl rfl (Nat.le_of_ble_eq_true rfl) (fun x16 => ?_)
    refine j_join 69 (fun v17 => [(h_, .inr (7, [.int v17, g_first, g_follow, g_begins])), (h_p1, .inr (6, [.ref h_p1_codes, .int c_p1_count])), (h_p1_codes, .inl (tc.1, 24, .inl c_p1_codes))]) (fun v17 => [(0, .ref h_), (1, .ref h_p1), (3, .int v4), (4, .int v5), (5, .int v12)]) (fun v17 => []) (fun v17 => ?_) (fun k19 hk19 => ?_)
    · refine j_iincN C (fun x18 => [(5, .int x18), (0, .ref h_), (1, .ref h_p1), (3, .int v4), (4, .int v5)]) d7_computeNullable_69 4 rfl (by decide +kernel) (by decide) (fun _ => rfl) (fun x18 => ?_)
      refine j_goto C d7_computeNullable_72 ?_
      exact j_sub [1, 2, 3, 4, 0] rfl (hrc14 _ _)
    · refine j_if_eq C d7_computeNullable_45 ?_ ?_
      · exact hk19 _
      · refine j_aload C d7_computeNullable_48 0 rfl ?_
        refine j_dup C d7_computeNullable_49 rfl ?_
        refine j_get C d7_computeNullable_50 fl7_21 0 rfl rfl ?_
        refine j_const C d7_computeNullable_53 ?_
        refine j_aload C d7_computeNullable_54 1 rfl ?_
        refine j_get C d7_computeNullable_55 fl7_50 1 rfl rfl ?_
        refine j_iload C d7_computeNullable_58 4 rfl ?_
        refine j_iald C d7_computeNullable_60 2 rfl (fun x20 => ?_)
        refine j_callSI0 (As := [.int x20]) C d7_computeNullable_61 ms7_57 (kX6_leftOf _ _ tc x20) ⟨rfl, rfl, Nat.le_of_ble_eq_true rfl, Nat.le_of_ble_eq_true rfl⟩ rfl [] rfl rfl rfl (Nat.le_of_ble_eq_true rfl) (fun x21 => ?_)
        refine j_ishl C d7_computeNullable_64 ?_
        refine j_ior C d7_computeNullable_65 ?_
        refine j_leti (fun x22 => ?_)
        refine j_putq C d7_computeNullable_66 fq7_21 0 rfl rfl rfl (Nat.le_of_ble_eq_true rfl) (ws' := [(h_, .inr (7, [.int x22, g_first, g_follow, g_begins])), (h_p1, .inr (6, [.ref h_p1_codes, .int c_p1_count])), (h_p1_codes, .inl (tc.1, 24, .inl c_p1_codes))]) rfl ?_
        exact hk19 _

set_option maxHeartbeats 4000000 in
set_option maxRecDepth 100000 in
theorem wX7_computeNullable_4 {X : jC} {tc : jTC} (C : jx X cX7_computeNullable 6 RX7 none tc ({ frames := 3, cells := 0, slots := 0, locals := 65 } : Room)) (N : Nat) (h_ h_p1 h_p1_codes : Nat) (g_first g_follow g_begins : Value) (c_p1_codes : (Nat → Int32)) (c_p1_count : Int32) (k2 : (Int32 → Option (Int32))) (hk2 : ∀ (v24 : Int32), jo X 6 (0, 0) (jQV X (fun (u : Int32) => [(h_, .inr (7, [.int u, g_first, g_follow, g_begins])), (h_p1, .inr (6, [.ref h_p1_codes, .int c_p1_count])), (h_p1_codes, .inl (tc.1, 24, .inl c_p1_codes))])) (k2 v24) [(h_, .inr (7, [.int v24, g_first, g_follow, g_begins])), (h_p1, .inr (6, [.ref h_p1_codes, .int c_p1_count])), (h_p1_codes, .inl (tc.1, 24, .inl c_p1_codes))] 96 [] []) (rc6 : Int32 → Int32 → Int32 → Option (Int32)) (hrc6 : ∀ (v3 : Int32) (v4 : Int32) (v5 : Int32), jo X 6 (0, 0) (jQV X (fun (u : Int32) => [(h_, .inr (7, [.int u, g_first, g_follow, g_begins])), (h_p1, .inr (6, [.ref h_p1_codes, .int c_p1_count])), (h_p1_codes, .inl (tc.1, 24, .inl c_p1_codes))])) (rc6 v3 v4 v5) [(h_, .inr (7, [.int v5, g_first, g_follow, g_begins])), (h_p1, .inr (6, [.ref h_p1_codes, .int c_p1_count])), (h_p1_codes, .inl (tc.1, 24, .inl c_p1_codes))] 4 [(0, .ref h_), (1, .ref h_p1), (2, .int v3), (3, .int v4)] []) (v3 : Int32) (v4 : Int32) (v5 : Int32) : jo X 6 (0, 0) (jQV X (fun (u : Int32) => [(h_, .inr (7, [.int u, g_first, g_follow, g_begins])), (h_p1, .inr (6, [.ref h_p1_codes, .int c_p1_count])), (h_p1_codes, .inl (tc.1, 24, .inl c_p1_codes))])) (bX7_computeNullable_4 N c_p1_codes c_p1_count k2 rc6 v3 v4 v5) [(h_, .inr (7, [.int v5, g_first, g_follow, g_begins])), (h_p1, .inr (6, [.ref h_p1_codes, .int c_p1_count])), (h_p1_codes, .inl (tc.1, 24, .inl c_p1_codes))] 4 [(0, .ref h_), (1, .ref h_p1), (2, .int v3), (3, .int v4)] [] := by
  unfold bX7_computeNullable_4
  refine j_iload C d7_computeNullable_4 3 rfl ?_
  refine j_const C d7_computeNullable_5 ?_
  refine j_icmp_ge C d7_computeNullable_8 ?_ ?_
  · exact j_sub [] rfl (hk2 _)
  · refine j_iload C d7_computeNullable_11 2 rfl ?_
    refine j_if_eq C d7_computeNullable_12 ?_ ?_
    · exact j_sub [] rfl (hk2 _)
    · refine j_aload C d7_computeNullable_15 0 rfl ?_
      refine j_get C d7_computeNullable_16 fl7_21 0 rfl rfl ?_
      refine j_istore C d7_computeNullable_19 (by decide) (lv' := [(4, .int v5), (0, .ref h_), (1, .ref h_p1), (2, .int v3), (3, .int v4)]) rfl ?_
      refine j_const C d7_computeNullable_21 ?_
      refine j_istore C d7_computeNullable_22 (by decide) (lv' := [(5, .int 0), (4, .int v5), (0, .ref h_), (1, .ref h_p1), (2, .int v3), (3, .int v4)]) rfl ?_
      refine j_join 75 (fun v7 => [(h_, .inr (7, [.int v7, g_first, g_follow, g_begins])), (h_p1, .inr (6, [.ref h_p1_codes, .int c_p1_count])), (h_p1_codes, .inl (tc.1, 24, .inl c_p1_codes))]) (fun v7 => [(0, .ref h_), (1, .ref h_p1), (3, .int v4), (4, .int v5)]) (fun v7 => []) (fun v7 => ?_) (fun k11 hk11 => ?_)
      · refine j_aload C d7_computeNullable_75 0 rfl ?_
        refine j_get C d7_computeNullable_76 fl7_21 0 rfl rfl ?_
        refine j_iload C d7_computeNullable_79 3 rfl ?_
        refine j_join 89 (fun v8 => [(h_, .inr (7, [.int v7, g_first, g_follow, g_begins])), (h_p1, .inr (6, [.ref h_p1_codes, .int c_p1_count])), (h_p1_codes, .inl (tc.1, 24, .inl c_p1_codes))]) (fun v8 => [(0, .ref h_), (1, .ref h_p1), (3, .int v4)]) (fun v8 => [.int v8]) (fun v8 => ?_) (fun k10 hk10 => ?_)
        · refine j_istore C d7_computeNullable_89 (by decide) (lv' := [(2, .int v8), (0, .ref h_), (1, .ref h_p1), (3, .int v4)]) rfl ?_
          refine j_iincN C (fun x9 => [(3, .int x9), (2, .int v8), (0, .ref h_), (1, .ref h_p1)]) d7_computeNullable_90 3 rfl (by decide +kernel) (by decide) (fun _ => rfl) (fun x9 => ?_)
          refine j_goto C d7_computeNullable_93 ?_
          exact j_sub [2, 3, 1, 0] rfl (hrc6 _ _ _)
        · refine j_icmp_eq C d7_computeNullable_81 ?_ ?_
          · refine j_const C d7_computeNullable_88 ?_
            exact j_sub [0, 1, 2] rfl (hk10 _)
          · refine j_const C d7_computeNullable_84 ?_
            refine j_goto C d7_computeNullable_85 ?_
            exact j_sub [0, 1, 2] rfl (hk10 _)
      · exact j_sub [2, 3, 5, 1, 0] rfl (j_loop2 (fun v12 v13 => [(h_, .inr (7, [.int v13, g_first, g_follow, g_begins])), (h_p1, .inr (6, [.ref h_p1_codes, .int c_p1_count])), (h_p1_codes, .inl (tc.1, 24, .inl c_p1_codes))]) (fun v12 v13 => [(0, .ref h_), (1, .ref h_p1), (3, .int v4), (4, .int v5), (5, .int v12)]) (fun rc14 hrc14 v12 v13 => wX7_computeNullable_24 C N h_ h_p1 h_p1_codes g_first g_follow g_begins c_p1_codes c_p1_count v4 v5 k11 hk11 rc14 hrc14 v12 v13) N _ _)

set_option maxHeartbeats 4000000 in
set_option maxRecDepth 100000 in
theorem kX7_computeNullable (l : Launch) (D : va_G) (tc : jTC) (N : Nat) (h_ h_p1 h_p1_codes : Nat) (g_first g_follow g_begins : Value) (c_nullable : Int32) (c_p1_codes : (Nat → Int32)) (c_p1_count : Int32) : ctV l D tc yX7_computeNullable (Cond.code yX7_computeNullable cX7_computeNullable 6 none :: jtb) ({ frames := 3, cells := 0, slots := 0, locals := 65 } : Room) [.ref h_, .ref h_p1] [(h_, .inr (7, [.int c_nullable, g_first, g_follow, g_begins])), (h_p1, .inr (6, [.ref h_p1_codes, .int c_p1_count])), (h_p1_codes, .inl (tc.1, 24, .inl c_p1_codes))] (fX7_computeNullable N c_nullable c_p1_codes c_p1_count) (fun (u : Int32) => [(h_, .inr (7, [.int u, g_first, g_follow, g_begins])), (h_p1, .inr (6, [.ref h_p1_codes, .int c_p1_count])), (h_p1_codes, .inl (tc.1, 24, .inl c_p1_codes))]) := by
  refine ctV_of (lv0 := [(0, .ref h_), (1, .ref h_p1)]) (by decide +kernel) (Nat.le_of_ble_eq_true rfl) rfl (fun X C => ?_)
  unfold fX7_computeNullable
  refine j_const C d7_computeNullable_0 ?_
  refine j_istore C d7_computeNullable_1 (by decide) (lv' := [(2, .int 1), (0, .ref h_), (1, .ref h_p1)]) rfl ?_
  refine j_const C d7_computeNullable_2 ?_
  refine j_istore C d7_computeNullable_3 (by decide) (lv' := [(3, .int 0), (2, .int 1), (0, .ref h_), (1, .ref h_p1)]) rfl ?_
  refine j_join 96 (fun v1 => [(h_, .inr (7, [.int v1, g_first, g_follow, g_begins])), (h_p1, .inr (6, [.ref h_p1_codes, .int c_p1_count])), (h_p1_codes, .inl (tc.1, 24, .inl c_p1_codes))]) (fun v1 => []) (fun v1 => []) (fun v1 => ?_) (fun k2 hk2 => ?_)
  · exact j_vret C d7_computeNullable_96 rfl
  · exact j_sub [2, 3, 1, 0] rfl (j_loop3 (fun v3 v4 v5 => [(h_, .inr (7, [.int v5, g_first, g_follow, g_begins])), (h_p1, .inr (6, [.ref h_p1_codes, .int c_p1_count])), (h_p1_codes, .inl (tc.1, 24, .inl c_p1_codes))]) (fun v3 v4 v5 => [(0, .ref h_), (1, .ref h_p1), (2, .int v3), (3, .int v4)]) (fun rc6 hrc6 v3 v4 v5 => wX7_computeNullable_4 C N h_ h_p1 h_p1_codes g_first g_follow g_begins c_p1_codes c_p1_count k2 hk2 rc6 hrc6 v3 v4 v5) N _ _ _)

