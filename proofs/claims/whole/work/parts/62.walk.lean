theorem d1_begin_0 : jda cX1_begin 0 0 1 := Or.inl ⟨0, by decide +kernel⟩
theorem d1_begin_1 : jdk cX1_begin 1 0 2 := Or.inl ⟨0, by decide +kernel⟩
theorem d1_begin_2 : jd cX1_begin 2 (.putfield 16) 3 5 := by decide +kernel
theorem d1_begin_5 : jda cX1_begin 5 0 6 := Or.inl ⟨0, by decide +kernel⟩
theorem d1_begin_6 : jdi cX1_begin 6 1 7 := Or.inl ⟨1, by decide +kernel⟩
theorem d1_begin_7 : jdi cX1_begin 7 2 8 := Or.inl ⟨2, by decide +kernel⟩
theorem d1_begin_8 : jd cX1_begin 8 (.invokevirtual 20) 3 11 := by decide +kernel
theorem d1_begin_11 : decode cX1_begin 11 = .ok (.return_, 1) := by decide +kernel
set_option maxHeartbeats 4000000 in
set_option maxRecDepth 100000 in
theorem kX1_begin (l : Launch) (D : va_G) (tc : jTC) (h_ h_codes h_details : Nat) (c_codes : (Nat → Int32)) (c_details : (Nat → Int32)) (c_levels : Int32) (p1 : Int32) (p2 : Int32) : ctV l D tc yX1_begin (Cond.code yX1_begin cX1_begin 3 none :: jtb) ({ frames := 1, cells := 0, slots := 0, locals := 22 } : Room) [.ref h_, .int p1, .int p2] [(h_, .inr (1, [.ref h_codes, .ref h_details, .int c_levels])), (h_codes, .inl (tc.1, 3, .inl c_codes)), (h_details, .inl (tc.1, 3, .inl c_details))] (fX1_begin c_codes c_details c_levels p1 p2) (fun (u : (Nat → Int32) × (Nat → Int32) × Int32) => [(h_, .inr (1, [.ref h_codes, .ref h_details, .int u.2.2])), (h_codes, .inl (tc.1, 3, .inl u.1)), (h_details, .inl (tc.1, 3, .inl u.2.1))]) := by
  refine ctV_of (lv0 := [(0, .ref h_), (1, .int p1), (2, .int p2)]) (by decide +kernel) (Nat.le_of_ble_eq_true rfl) rfl (fun X C => ?_)
  unfold fX1_begin
  refine j_aload C d1_begin_0 0 rfl ?_
  refine j_const C d1_begin_1 ?_
  refine j_putq C d1_begin_2 fq1_16 0 rfl rfl rfl (Nat.le_of_ble_eq_true rfl) (ws' := [(h_, .inr (1, [.ref h_codes, .ref h_details, .int 0])), (h_codes, .inl (tc.1, 3, .inl c_codes)), (h_details, .inl (tc.1, 3, .inl c_details))]) rfl ?_
  refine j_aload C d1_begin_5 0 rfl ?_
  refine j_iload C d1_begin_6 1 rfl ?_
  refine j_iload C d1_begin_7 2 rfl ?_
  refine j_callVV3 (As := [.int p1, .int p2]) C d1_begin_8 mv1_20 (kX1_because _ _ tc h_ h_codes h_details c_codes c_details 0 p1 p2) ⟨rfl, rfl, Nat.le_of_ble_eq_true rfl, Nat.le_of_ble_eq_true rfl⟩ rfl 0 rfl [0, 1, 2] rfl rfl rfl (Nat.le_of_ble_eq_true rfl) (fun o1 o2 o3 => [(h_, .inr (1, [.ref h_codes, .ref h_details, .int o3])), (h_codes, .inl (tc.1, 3, .inl o1)), (h_details, .inl (tc.1, 3, .inl o2))]) [(true, 0), (true, 1), (true, 2)] (fun _ => rfl) (by decide +kernel) (fun o1 o2 o3 => ?_)
  exact j_vret C d1_begin_11 rfl

theorem d6_become_0 : jda cX6_become 0 1 1 := Or.inl ⟨1, by decide +kernel⟩
theorem d6_become_1 : jd cX6_become 1 (.getfield 9) 3 4 := by decide +kernel
theorem d6_become_4 : jdk cX6_become 4 0 5 := Or.inl ⟨0, by decide +kernel⟩
theorem d6_become_5 : jda cX6_become 5 0 6 := Or.inl ⟨0, by decide +kernel⟩
theorem d6_become_6 : jd cX6_become 6 (.getfield 9) 3 9 := by decide +kernel
theorem d6_become_9 : jdk cX6_become 9 0 10 := Or.inl ⟨0, by decide +kernel⟩
theorem d6_become_10 : jda cX6_become 10 1 11 := Or.inl ⟨1, by decide +kernel⟩
theorem d6_become_11 : jd cX6_become 11 (.getfield 37) 3 14 := by decide +kernel
theorem d6_become_14 : jd cX6_become 14 (.invokestatic 41) 3 17 := by decide +kernel
theorem d6_become_17 : jda cX6_become 17 0 18 := Or.inl ⟨0, by decide +kernel⟩
theorem d6_become_18 : jda cX6_become 18 1 19 := Or.inl ⟨1, by decide +kernel⟩
theorem d6_become_19 : jd cX6_become 19 (.getfield 37) 3 22 := by decide +kernel
theorem d6_become_22 : jd cX6_become 22 (.putfield 37) 3 25 := by decide +kernel
theorem d6_become_25 : decode cX6_become 25 = .ok (.return_, 1) := by decide +kernel
set_option maxHeartbeats 4000000 in
set_option maxRecDepth 100000 in
theorem kX6_become (l : Launch) (D : va_G) (tc : jTC) (h_ h_codes h_p1 h_p1_codes : Nat) (c_codes : (Nat → Int32)) (c_count : Int32) (c_p1_codes : (Nat → Int32)) (c_p1_count : Int32) : ctV l D tc yX6_become (Cond.code yX6_become cX6_become 2 none :: jtb) ({ frames := 1, cells := 0, slots := 0, locals := 40 } : Room) [.ref h_, .ref h_p1] [(h_, .inr (6, [.ref h_codes, .int c_count])), (h_codes, .inl (tc.1, 24, .inl c_codes)), (h_p1, .inr (6, [.ref h_p1_codes, .int c_p1_count])), (h_p1_codes, .inl (tc.1, 24, .inl c_p1_codes))] (fX6_become c_codes c_count c_p1_codes c_p1_count) (fun (u : (Nat → Int32) × Int32) => [(h_, .inr (6, [.ref h_codes, .int u.2])), (h_codes, .inl (tc.1, 24, .inl u.1)), (h_p1, .inr (6, [.ref h_p1_codes, .int c_p1_count])), (h_p1_codes, .inl (tc.1, 24, .inl c_p1_codes))]) := by
  refine ctV_of (lv0 := [(0, .ref h_), (1, .ref h_p1)]) (by decide +kernel) (Nat.le_of_ble_eq_true rfl) rfl (fun X C => ?_)
  unfold fX6_become
  refine j_aload C d6_become_0 1 rfl ?_
  refine j_get C d6_become_1 fl6_9 2 rfl rfl ?_
  refine j_const C d6_become_4 ?_
  refine j_aload C d6_become_5 0 rfl ?_
  refine j_get C d6_become_6 fl6_9 0 rfl rfl ?_
  refine j_const C d6_become_9 ?_
  refine j_aload C d6_become_10 1 rfl ?_
  refine j_get C d6_become_11 fl6_37 2 rfl rfl ?_
  refine j_copyi C (fun f1 => [(h_, .inr (6, [.ref h_codes, .int c_count])), (h_codes, .inl (tc.1, 24, .inl f1)), (h_p1, .inr (6, [.ref h_p1_codes, .int c_p1_count])), (h_p1_codes, .inl (tc.1, 24, .inl c_p1_codes))]) d6_become_14 kj6_41 ⟨Nat.le_of_ble_eq_true rfl, Nat.le_of_ble_eq_true rfl⟩ (Nat.le_of_ble_eq_true rfl) 3 1 rfl rfl (fun _ => rfl) (fun f1 => ?_)
  refine j_aload C d6_become_17 0 rfl ?_
  refine j_aload C d6_become_18 1 rfl ?_
  refine j_get C d6_become_19 fl6_37 2 rfl rfl ?_
  refine j_putq C d6_become_22 fq6_37 0 rfl rfl rfl (Nat.le_of_ble_eq_true rfl) (ws' := [(h_, .inr (6, [.ref h_codes, .int c_p1_count])), (h_codes, .inl (tc.1, 24, .inl f1)), (h_p1, .inr (6, [.ref h_p1_codes, .int c_p1_count])), (h_p1_codes, .inl (tc.1, 24, .inl c_p1_codes))]) rfl ?_
  exact j_vret C d6_become_25 rfl

theorem d2_save_0 : jda cX2_save 0 0 1 := Or.inl ⟨0, by decide +kernel⟩
theorem d2_save_1 : jda cX2_save 1 0 2 := Or.inl ⟨0, by decide +kernel⟩
theorem d2_save_2 : jd cX2_save 2 (.getfield 18) 3 5 := by decide +kernel
theorem d2_save_5 : jdk cX2_save 5 1 6 := Or.inl ⟨1, by decide +kernel⟩
theorem d2_save_6 : jd cX2_save 6 (.iadd) 1 7 := by decide +kernel
theorem d2_save_7 : jdk cX2_save 7 10 9 := Or.inr (Or.inl ⟨10, by decide +kernel⟩)
theorem d2_save_9 : jd cX2_save 9 (.irem) 1 10 := by decide +kernel
theorem d2_save_10 : jd cX2_save 10 (.putfield 18) 3 13 := by decide +kernel
theorem d2_save_13 : jda cX2_save 13 0 14 := Or.inl ⟨0, by decide +kernel⟩
theorem d2_save_14 : jda cX2_save 14 0 15 := Or.inl ⟨0, by decide +kernel⟩
theorem d2_save_15 : jd cX2_save 15 (.getfield 22) 3 18 := by decide +kernel
theorem d2_save_18 : jdk cX2_save 18 1 19 := Or.inl ⟨1, by decide +kernel⟩
theorem d2_save_19 : jd cX2_save 19 (.iadd) 1 20 := by decide +kernel
theorem d2_save_20 : jdk cX2_save 20 10 22 := Or.inr (Or.inl ⟨10, by decide +kernel⟩)
theorem d2_save_22 : jd cX2_save 22 (.invokestatic 25) 3 25 := by decide +kernel
theorem d2_save_25 : jd cX2_save 25 (.putfield 22) 3 28 := by decide +kernel
theorem d2_save_28 : jda cX2_save 28 0 29 := Or.inl ⟨0, by decide +kernel⟩
theorem d2_save_29 : jd cX2_save 29 (.getfield 11) 3 32 := by decide +kernel
theorem d2_save_32 : jda cX2_save 32 0 33 := Or.inl ⟨0, by decide +kernel⟩
theorem d2_save_33 : jd cX2_save 33 (.getfield 18) 3 36 := by decide +kernel
theorem d2_save_36 : jd cX2_save 36 (.aaload) 1 37 := by decide +kernel
theorem d2_save_37 : jda cX2_save 37 1 38 := Or.inl ⟨1, by decide +kernel⟩
theorem d2_save_38 : jd cX2_save 38 (.invokevirtual 31) 3 41 := by decide +kernel
theorem d2_save_41 : jda cX2_save 41 0 42 := Or.inl ⟨0, by decide +kernel⟩
theorem d2_save_42 : jd cX2_save 42 (.getfield 11) 3 45 := by decide +kernel
theorem d2_save_45 : jda cX2_save 45 0 46 := Or.inl ⟨0, by decide +kernel⟩
theorem d2_save_46 : jd cX2_save 46 (.getfield 18) 3 49 := by decide +kernel
theorem d2_save_49 : jd cX2_save 49 (.aaload) 1 50 := by decide +kernel
theorem d2_save_50 : decode cX2_save 50 = .ok (.areturn, 1) := by decide +kernel
set_option maxHeartbeats 4000000 in
set_option maxRecDepth 100000 in
theorem kX2_save (l : Launch) (D : va_G) (tc : jTC) (h_ h_saved h_p1 h_p1_codes : Nat) (hR_saved hC_saved : Nat → Nat) (c_saved_codes : (Nat → Nat → Int32)) (c_saved_count : (Nat → Int32)) (c_newest : Int32) (c_size : Int32) (c_p1_codes : (Nat → Int32)) (c_p1_count : Int32) : ctR l D tc yX2_save (Cond.code yX2_save cX2_save 2 (some (.object "PredictiveGrammar$Rules")) :: jtb) ({ frames := 2, cells := 0, slots := 0, locals := 61 } : Room) [.ref h_, .ref h_p1] [(h_, .inr (2, [.ref h_saved, .int c_newest, .int c_size])), (h_saved, .inl (tc.2.2, 10, .inr (.inr (.inr (.inr fun j => some (hR_saved j)))))), ((hR_saved 0), .inr (6, [.ref (hC_saved 0), .int (c_saved_count 0)])), ((hC_saved 0), .inl (tc.1, 24, .inl (c_saved_codes 0))), ((hR_saved 1), .inr (6, [.ref (hC_saved 1), .int (c_saved_count 1)])), ((hC_saved 1), .inl (tc.1, 24, .inl (c_saved_codes 1))), ((hR_saved 2), .inr (6, [.ref (hC_saved 2), .int (c_saved_count 2)])), ((hC_saved 2), .inl (tc.1, 24, .inl (c_saved_codes 2))), ((hR_saved 3), .inr (6, [.ref (hC_saved 3), .int (c_saved_count 3)])), ((hC_saved 3), .inl (tc.1, 24, .inl (c_saved_codes 3))), ((hR_saved 4), .inr (6, [.ref (hC_saved 4), .int (c_saved_count 4)])), ((hC_saved 4), .inl (tc.1, 24, .inl (c_saved_codes 4))), ((hR_saved 5), .inr (6, [.ref (hC_saved 5), .int (c_saved_count 5)])), ((hC_saved 5), .inl (tc.1, 24, .inl (c_saved_codes 5))), ((hR_saved 6), .inr (6, [.ref (hC_saved 6), .int (c_saved_count 6)])), ((hC_saved 6), .inl (tc.1, 24, .inl (c_saved_codes 6))), ((hR_saved 7), .inr (6, [.ref (hC_saved 7), .int (c_saved_count 7)])), ((hC_saved 7), .inl (tc.1, 24, .inl (c_saved_codes 7))), ((hR_saved 8), .inr (6, [.ref (hC_saved 8), .int (c_saved_count 8)])), ((hC_saved 8), .inl (tc.1, 24, .inl (c_saved_codes 8))), ((hR_saved 9), .inr (6, [.ref (hC_saved 9), .int (c_saved_count 9)])), ((hC_saved 9), .inl (tc.1, 24, .inl (c_saved_codes 9))), (h_p1, .inr (6, [.ref h_p1_codes, .int c_p1_count])), (h_p1_codes, .inl (tc.1, 24, .inl c_p1_codes))] hR_saved (fX2_save c_saved_codes c_saved_count c_newest c_size c_p1_codes c_p1_count) (fun (u : (Nat → Nat → Int32) × (Nat → Int32) × Int32 × Int32) => [(h_, .inr (2, [.ref h_saved, .int u.2.2.1, .int u.2.2.2])), (h_saved, .inl (tc.2.2, 10, .inr (.inr (.inr (.inr fun j => some (hR_saved j)))))), ((hR_saved 0), .inr (6, [.ref (hC_saved 0), .int (u.2.1 0)])), ((hC_saved 0), .inl (tc.1, 24, .inl (u.1 0))), ((hR_saved 1), .inr (6, [.ref (hC_saved 1), .int (u.2.1 1)])), ((hC_saved 1), .inl (tc.1, 24, .inl (u.1 1))), ((hR_saved 2), .inr (6, [.ref (hC_saved 2), .int (u.2.1 2)])), ((hC_saved 2), .inl (tc.1, 24, .inl (u.1 2))), ((hR_saved 3), .inr (6, [.ref (hC_saved 3), .int (u.2.1 3)])), ((hC_saved 3), .inl (tc.1, 24, .inl (u.1 3))), ((hR_saved 4), .inr (6, [.ref (hC_saved 4), .int (u.2.1 4)])), ((hC_saved 4), .inl (tc.1, 24, .inl (u.1 4))), ((hR_saved 5), .inr (6, [.ref (hC_saved 5), .int (u.2.1 5)])), ((hC_saved 5), .inl (tc.1, 24, .inl (u.1 5))), ((hR_saved 6), .inr (6, [.ref (hC_saved 6), .int (u.2.1 6)])), ((hC_saved 6), .inl (tc.1, 24, .inl (u.1 6))), ((hR_saved 7), .inr (6, [.ref (hC_saved 7), .int (u.2.1 7)])), ((hC_saved 7), .inl (tc.1, 24, .inl (u.1 7))), ((hR_saved 8), .inr (6, [.ref (hC_saved 8), .int (u.2.1 8)])), ((hC_saved 8), .inl (tc.1, 24, .inl (u.1 8))), ((hR_saved 9), .inr (6, [.ref (hC_saved 9), .int (u.2.1 9)])), ((hC_saved 9), .inl (tc.1, 24, .inl (u.1 9))), (h_p1, .inr (6, [.ref h_p1_codes, .int c_p1_count])), (h_p1_codes, .inl (tc.1, 24, .inl c_p1_codes))]) := by
  refine ctR_of (lv0 := [(0, .ref h_), (1, .ref h_p1)]) (by decide +kernel) (Nat.le_of_ble_eq_true rfl) rfl (fun X C => ?_)
  unfold fX2_save
  refine j_aload C d2_save_0 0 rfl ?_
  refine j_aload C d2_save_1 0 rfl ?_
  refine j_get C d2_save_2 fl2_18 0 rfl rfl ?_
  refine j_const C d2_save_5 ?_
  refine j_iadd C d2_save_6 ?_
  refine j_const C d2_save_7 ?_
  refine j_irem C d2_save_9 (by decide) ?_
  refine j_leti (fun x1 => ?_)
  refine j_putq C d2_save_10 fq2_18 0 rfl rfl rfl (Nat.le_of_ble_eq_true rfl) (ws' := [(h_, .inr (2, [.ref h_saved, .int x1, .int c_size])), (h_saved, .inl (tc.2.2, 10, .inr (.inr (.inr (.inr fun j => some (hR_saved j)))))), ((hR_saved 0), .inr (6, [.ref (hC_saved 0), .int (c_saved_count 0)])), ((hC_saved 0), .inl (tc.1, 24, .inl (c_saved_codes 0))), ((hR_saved 1), .inr (6, [.ref (hC_saved 1), .int (c_saved_count 1)])), ((hC_saved 1), .inl (tc.1, 24, .inl (c_saved_codes 1))), ((hR_saved 2), .inr (6, [.ref (hC_saved 2), .int (c_saved_count 2)])), ((hC_saved 2), .inl (tc.1, 24, .inl (c_saved_codes 2))), ((hR_saved 3), .inr (6, [.ref (hC_saved 3), .int (c_saved_count 3)])), ((hC_saved 3), .inl (tc.1, 24, .inl (c_saved_codes 3))), ((hR_saved 4), .inr (6, [.ref (hC_saved 4), .int (c_saved_count 4)])), ((hC_saved 4), .inl (tc.1, 24, .inl (c_saved_codes 4))), ((hR_saved 5), .inr (6, [.ref (hC_saved 5), .int (c_saved_count 5)])), ((hC_saved 5), .inl (tc.1, 24, .inl (c_saved_codes 5))), ((hR_saved 6), .inr (6, [.ref (hC_saved 6), .int (c_saved_count 6)])), ((hC_saved 6), .inl (tc.1, 24, .inl (c_saved_codes 6))), ((hR_saved 7), .inr (6, [.ref (hC_saved 7), .int (c_saved_count 7)])), ((hC_saved 7), .inl (tc.1, 24, .inl (c_saved_codes 7))), ((hR_saved 8), .inr (6, [.ref (hC_saved 8), .int (c_saved_count 8)])), ((hC_saved 8), .inl (tc.1, 24, .inl (c_saved_codes 8))), ((hR_saved 9), .inr (6, [.ref (hC_saved 9), .int (c_saved_count 9)])), ((hC_saved 9), .inl (tc.1, 24, .inl (c_saved_codes 9))), (h_p1, .inr (6, [.ref h_p1_codes, .int c_p1_count])), (h_p1_codes, .inl (tc.1, 24, .inl c_p1_codes))]) rfl ?_
  refine j_aload C d2_save_13 0 rfl ?_
  refine j_aload C d2_save_14 0 rfl ?_
  refine j_get C d2_save_15 fl2_22 0 rfl rfl ?_
  refine j_const C d2_save_18 ?_
  refine j_iadd C d2_save_19 ?_
  refine j_const C d2_save_20 ?_
  refine j_mmin C d2_save_22 kj2_25 rfl ⟨Nat.le_of_ble_eq_true rfl, Nat.le_of_ble_eq_true rfl⟩ (Nat.le_of_ble_eq_true rfl) ?_
  refine j_leti (fun x2 => ?_)
  refine j_putq C d2_save_25 fq2_22 0 rfl rfl rfl (Nat.le_of_ble_eq_true rfl) (ws' := [(h_, .inr (2, [.ref h_saved, .int x1, .int x2])), (h_saved, .inl (tc.2.2, 10, .inr (.inr (.inr (.inr fun j => some (hR_saved j)))))), ((hR_saved 0), .inr (6, [.ref (hC_saved 0), .int (c_saved_count 0)])), ((hC_saved 0), .inl (tc.1, 24, .inl (c_saved_codes 0))), ((hR_saved 1), .inr (6, [.ref (hC_saved 1), .int (c_saved_count 1)])), ((hC_saved 1), .inl (tc.1, 24, .inl (c_saved_codes 1))), ((hR_saved 2), .inr (6, [.ref (hC_saved 2), .int (c_saved_count 2)])), ((hC_saved 2), .inl (tc.1, 24, .inl (c_saved_codes 2))), ((hR_saved 3), .inr (6, [.ref (hC_saved 3), .int (c_saved_count 3)])), ((hC_saved 3), .inl (tc.1, 24, .inl (c_saved_codes 3))), ((hR_saved 4), .inr (6, [.ref (hC_saved 4), .int (c_saved_count 4)])), ((hC_saved 4), .inl (tc.1, 24, .inl (c_saved_codes 4))), ((hR_saved 5), .inr (6, [.ref (hC_saved 5), .int (c_saved_count 5)])), ((hC_saved 5), .inl (tc.1, 24, .inl (c_saved_codes 5))), ((hR_saved 6), .inr (6, [.ref (hC_saved 6), .int (c_saved_count 6)])), ((hC_saved 6), .inl (tc.1, 24, .inl (c_saved_codes 6))), ((hR_saved 7), .inr (6, [.ref (hC_saved 7), .int (c_saved_count 7)])), ((hC_saved 7), .inl (tc.1, 24, .inl (c_saved_codes 7))), ((hR_saved 8), .inr (6, [.ref (hC_saved 8), .int (c_saved_count 8)])), ((hC_saved 8), .inl (tc.1, 24, .inl (c_saved_codes 8))), ((hR_saved 9), .inr (6, [.ref (hC_saved 9), .int (c_saved_count 9)])), ((hC_saved 9), .inl (tc.1, 24, .inl (c_saved_codes 9))), (h_p1, .inr (6, [.ref h_p1_codes, .int c_p1_count])), (h_p1_codes, .inl (tc.1, 24, .inl c_p1_codes))]) rfl ?_
  refine j_aload C d2_save_28 0 rfl ?_
  refine j_get C d2_save_29 fl2_11 0 rfl rfl ?_
  refine j_aload C d2_save_32 0 rfl ?_
  refine j_get C d2_save_33 fl2_18 0 rfl rfl ?_
  refine j_aald C d2_save_36 1 rfl (fun j3 hj3 => ?_)
  rcases j10 hj3 with rfl | rfl | rfl | rfl | rfl | rfl | rfl | rfl | rfl | rfl
  · refine j_aload C d2_save_37 1 rfl ?_
    refine j_callVV2 (As := [.ref h_p1]) C d2_save_38 mv2_31 (kX6_become _ _ tc (hR_saved 0) (hC_saved 0) h_p1 h_p1_codes (c_saved_codes 0) (c_saved_count 0) c_p1_codes c_p1_count) ⟨rfl, rfl, Nat.le_of_ble_eq_true rfl, Nat.le_of_ble_eq_true rfl⟩ rfl 2 rfl [2, 3, 22, 23] rfl rfl rfl (Nat.le_of_ble_eq_true rfl) (fun o7 o8 => [(h_, .inr (2, [.ref h_saved, .int x1, .int x2])), (h_saved, .inl (tc.2.2, 10, .inr (.inr (.inr (.inr fun j => some (hR_saved j)))))), ((hR_saved 0), .inr (6, [.ref (hC_saved 0), .int ((va_up c_saved_count 0 o8) 0)])), ((hC_saved 0), .inl (tc.1, 24, .inl ((va_up c_saved_codes 0 o7) 0))), ((hR_saved 1), .inr (6, [.ref (hC_saved 1), .int ((va_up c_saved_count 0 o8) 1)])), ((hC_saved 1), .inl (tc.1, 24, .inl ((va_up c_saved_codes 0 o7) 1))), ((hR_saved 2), .inr (6, [.ref (hC_saved 2), .int ((va_up c_saved_count 0 o8) 2)])), ((hC_saved 2), .inl (tc.1, 24, .inl ((va_up c_saved_codes 0 o7) 2))), ((hR_saved 3), .inr (6, [.ref (hC_saved 3), .int ((va_up c_saved_count 0 o8) 3)])), ((hC_saved 3), .inl (tc.1, 24, .inl ((va_up c_saved_codes 0 o7) 3))), ((hR_saved 4), .inr (6, [.ref (hC_saved 4), .int ((va_up c_saved_count 0 o8) 4)])), ((hC_saved 4), .inl (tc.1, 24, .inl ((va_up c_saved_codes 0 o7) 4))), ((hR_saved 5), .inr (6, [.ref (hC_saved 5), .int ((va_up c_saved_count 0 o8) 5)])), ((hC_saved 5), .inl (tc.1, 24, .inl ((va_up c_saved_codes 0 o7) 5))), ((hR_saved 6), .inr (6, [.ref (hC_saved 6), .int ((va_up c_saved_count 0 o8) 6)])), ((hC_saved 6), .inl (tc.1, 24, .inl ((va_up c_saved_codes 0 o7) 6))), ((hR_saved 7), .inr (6, [.ref (hC_saved 7), .int ((va_up c_saved_count 0 o8) 7)])), ((hC_saved 7), .inl (tc.1, 24, .inl ((va_up c_saved_codes 0 o7) 7))), ((hR_saved 8), .inr (6, [.ref (hC_saved 8), .int ((va_up c_saved_count 0 o8) 8)])), ((hC_saved 8), .inl (tc.1, 24, .inl ((va_up c_saved_codes 0 o7) 8))), ((hR_saved 9), .inr (6, [.ref (hC_saved 9), .int ((va_up c_saved_count 0 o8) 9)])), ((hC_saved 9), .inl (tc.1, 24, .inl ((va_up c_saved_codes 0 o7) 9))), (h_p1, .inr (6, [.ref h_p1_codes, .int c_p1_count])), (h_p1_codes, .inl (tc.1, 24, .inl c_p1_codes))]) [(false, 0), (false, 1), (true, 0), (true, 1), (false, 4), (false, 5), (false, 6), (false, 7), (false, 8), (false, 9), (false, 10), (false, 11), (false, 12), (false, 13), (false, 14), (false, 15), (false, 16), (false, 17), (false, 18), (false, 19), (false, 20), (false, 21), (true, 2), (true, 3)] (fun _ => rfl) (by decide +kernel) (fun o7 o8 => ?_)
    refine j_aload C d2_save_41 0 rfl ?_
    refine j_get C d2_save_42 fl2_11 0 rfl rfl ?_
    refine j_aload C d2_save_45 0 rfl ?_
    refine j_get C d2_save_46 fl2_18 0 rfl rfl ?_
    refine j_aald C d2_save_49 1 rfl (fun j9 hj9 => ?_)
    exact j_aret C d2_save_50 rfl
  · refine j_aload C d2_save_37 1 rfl ?_
    refine j_callVV2 (As := [.ref h_p1]) C d2_save_38 mv2_31 (kX6_become _ _ tc (hR_saved 1) (hC_saved 1) h_p1 h_p1_codes (c_saved_codes 1) (c_saved_count 1) c_p1_codes c_p1_count) ⟨rfl, rfl, Nat.le_of_ble_eq_true rfl, Nat.le_of_ble_eq_true rfl⟩ rfl 4 rfl [4, 5, 22, 23] rfl rfl rfl (Nat.le_of_ble_eq_true rfl) (fun o10 o11 => [(h_, .inr (2, [.ref h_saved, .int x1, .int x2])), (h_saved, .inl (tc.2.2, 10, .inr (.inr (.inr (.inr fun j => some (hR_saved j)))))), ((hR_saved 0), .inr (6, [.ref (hC_saved 0), .int ((va_up c_saved_count 1 o11) 0)])), ((hC_saved 0), .inl (tc.1, 24, .inl ((va_up c_saved_codes 1 o10) 0))), ((hR_saved 1), .inr (6, [.ref (hC_saved 1), .int ((va_up c_saved_count 1 o11) 1)])), ((hC_saved 1), .inl (tc.1, 24, .inl ((va_up c_saved_codes 1 o10) 1))), ((hR_saved 2), .inr (6, [.ref (hC_saved 2), .int ((va_up c_saved_count 1 o11) 2)])), ((hC_saved 2), .inl (tc.1, 24, .inl ((va_up c_saved_codes 1 o10) 2))), ((hR_saved 3), .inr (6, [.ref (hC_saved 3), .int ((va_up c_saved_count 1 o11) 3)])), ((hC_saved 3), .inl (tc.1, 24, .inl ((va_up c_saved_codes 1 o10) 3))), ((hR_saved 4), .inr (6, [.ref (hC_saved 4), .int ((va_up c_saved_count 1 o11) 4)])), ((hC_saved 4), .inl (tc.1, 24, .inl ((va_up c_saved_codes 1 o10) 4))), ((hR_saved 5), .inr (6, [.ref (hC_saved 5), .int ((va_up c_saved_count 1 o11) 5)])), ((hC_saved 5), .inl (tc.1, 24, .inl ((va_up c_saved_codes 1 o10) 5))), ((hR_saved 6), .inr (6, [.ref (hC_saved 6), .int ((va_up c_saved_count 1 o11) 6)])), ((hC_saved 6), .inl (tc.1, 24, .inl ((va_up c_saved_codes 1 o10) 6))), ((hR_saved 7), .inr (6, [.ref (hC_saved 7), .int ((va_up c_saved_count 1 o11) 7)])), ((hC_saved 7), .inl (tc.1, 24, .inl ((va_up c_saved_codes 1 o10) 7))), ((hR_saved 8), .inr (6, [.ref (hC_saved 8), .int ((va_up c_saved_count 1 o11) 8)])), ((hC_saved 8), .inl (tc.1, 24, .inl ((va_up c_saved_codes 1 o10) 8))), ((hR_saved 9), .inr (6, [.ref (hC_saved 9), .int ((va_up c_saved_count 1 o11) 9)])), ((hC_saved 9), .inl (tc.1, 24, .inl ((va_up c_saved_codes 1 o10) 9))), (h_p1, .inr (6, [.ref h_p1_codes, .int c_p1_count])), (h_p1_codes, .inl (tc.1, 24, .inl c_p1_codes))]) [(false, 0), (false, 1), (false, 2), (false, 3), (true, 0), (true, 1), (false, 6), (false, 7), (false, 8), (false, 9), (false, 10), (false, 11), (false, 12), (false, 13), (false, 14), (false, 15), (false, 16), (false, 17), (false, 18), (false, 19), (false, 20), (false, 21), (true, 2), (true, 3)] (fun _ => rfl) (by decide +kernel) (fun o10 o11 => ?_)
    refine j_aload C d2_save_41 0 rfl ?_
    refine j_get C d2_save_42 fl2_11 0 rfl rfl ?_
    refine j_aload C d2_save_45 0 rfl ?_
    refine j_get C d2_save_46 fl2_18 0 rfl rfl ?_
    refine j_aald C d2_save_49 1 rfl (fun j12 hj12 => ?_)
    exact j_aret C d2_save_50 rfl
  · refine j_aload C d2_save_37 1 rfl ?_
    refine j_callVV2 (As := [.ref h_p1]) C d2_save_38 mv2_31 (kX6_become _ _ tc (hR_saved 2) (hC_saved 2) h_p1 h_p1_codes (c_saved_codes 2) (c_saved_count 2) c_p1_codes c_p1_count) ⟨rfl, rfl, Nat.le_of_ble_eq_true rfl, Nat.le_of_ble_eq_true rfl⟩ rfl 6 rfl [6, 7, 22, 23] rfl rfl rfl (Nat.le_of_ble_eq_true rfl) (fun o13 o14 => [(h_, .inr (2, [.ref h_saved, .int x1, .int x2])), (h_saved, .inl (tc.2.2, 10, .inr (.inr (.inr (.inr fun j => some (hR_saved j)))))), ((hR_saved 0), .inr (6, [.ref (hC_saved 0), .int ((va_up c_saved_count 2 o14) 0)])), ((hC_saved 0), .inl (tc.1, 24, .inl ((va_up c_saved_codes 2 o13) 0))), ((hR_saved 1), .inr (6, [.ref (hC_saved 1), .int ((va_up c_saved_count 2 o14) 1)])), ((hC_saved 1), .inl (tc.1, 24, .inl ((va_up c_saved_codes 2 o13) 1))), ((hR_saved 2), .inr (6, [.ref (hC_saved 2), .int ((va_up c_saved_count 2 o14) 2)])), ((hC_saved 2), .inl (tc.1, 24, .inl ((va_up c_saved_codes 2 o13) 2))), ((hR_saved 3), .inr (6, [.ref (hC_saved 3), .int ((va_up c_saved_count 2 o14) 3)])), ((hC_saved 3), .inl (tc.1, 24, .inl ((va_up c_saved_codes 2 o13) 3))), ((hR_saved 4), .inr (6, [.ref (hC_saved 4), .int ((va_up c_saved_count 2 o14) 4)])), ((hC_saved 4), .inl (tc.1, 24, .inl ((va_up c_saved_codes 2 o13) 4))), ((hR_saved 5), .inr (6, [.ref (hC_saved 5), .int ((va_up c_saved_count 2 o14) 5)])), ((hC_saved 5), .inl (tc.1, 24, .inl ((va_up c_saved_codes 2 o13) 5))), ((hR_saved 6), .inr (6, [.ref (hC_saved 6), .int ((va_up c_saved_count 2 o14) 6)])), ((hC_saved 6), .inl (tc.1, 24, .inl ((va_up c_saved_codes 2 o13) 6))), ((hR_saved 7), .inr (6, [.ref (hC_saved 7), .int ((va_up c_saved_count 2 o14) 7)])), ((hC_saved 7), .inl (tc.1, 24, .inl ((va_up c_saved_codes 2 o13) 7))), ((hR_saved 8), .inr (6, [.ref (hC_saved 8), .int ((va_up c_saved_count 2 o14) 8)])), ((hC_saved 8), .inl (tc.1, 24, .inl ((va_up c_saved_codes 2 o13) 8))), ((hR_saved 9), .inr (6, [.ref (hC_saved 9), .int ((va_up c_saved_count 2 o14) 9)])), ((hC_saved 9), .inl (tc.1, 24, .inl ((va_up c_saved_codes 2 o13) 9))), (h_p1, .inr (6, [.ref h_p1_codes, .int c_p1_count])), (h_p1_codes, .inl (tc.1, 24, .inl c_p1_codes))]) [(false, 0), (false, 1), (false, 2), (false, 3), (false, 4), (false, 5), (true, 0), (true, 1), (false, 8), (false, 9), (false, 10), (false, 11), (false, 12), (false, 13), (false, 14), (false, 15), (false, 16), (false, 17), (false, 18), (false, 19), (false, 20), (false, 21), (true, 2), (true, 3)] (fun _ => rfl) (by decide +kernel) (fun o13 o14 => ?_)
    refine j_aload C d2_save_41 0 rfl ?_
    refine j_get C d2_save_42 fl2_11 0 rfl rfl ?_
    refine j_aload C d2_save_45 0 rfl ?_
    refine j_get C d2_save_46 fl2_18 0 rfl rfl ?_
    refine j_aald C d2_save_49 1 rfl (fun j15 hj15 => ?_)
    exact j_aret C d2_save_50 rfl
  · refine j_aload C d2_save_37 1 rfl ?_
    refine j_callVV2 (As := [.ref h_p1]) C d2_save_38 mv2_31 (kX6_become _ _ tc (hR_saved 3) (hC_saved 3) h_p1 h_p1_codes (c_saved_codes 3) (c_saved_count 3) c_p1_codes c_p1_count) ⟨rfl, rfl, Nat.le_of_ble_eq_true rfl, Nat.le_of_ble_eq_true rfl⟩ rfl 8 rfl [8, 9, 22, 23] rfl rfl rfl (Nat.le_of_ble_eq_true rfl) (fun o16 o17 => [(h_, .inr (2, [.ref h_saved, .int x1, .int x2])), (h_saved, .inl (tc.2.2, 10, .inr (.inr (.inr (.inr fun j => some (hR_saved j)))))), ((hR_saved 0), .inr (6, [.ref (hC_saved 0), .int ((va_up c_saved_count 3 o17) 0)])), ((hC_saved 0), .inl (tc.1, 24, .inl ((va_up c_saved_codes 3 o16) 0))), ((hR_saved 1), .inr (6, [.ref (hC_saved 1), .int ((va_up c_saved_count 3 o17) 1)])), ((hC_saved 1), .inl (tc.1, 24, .inl ((va_up c_saved_codes 3 o16) 1))), ((hR_saved 2), .inr (6, [.ref (hC_saved 2), .int ((va_up c_saved_count 3 o17) 2)])), ((hC_saved 2), .inl (tc.1, 24, .inl ((va_up c_saved_codes 3 o16) 2))), ((hR_saved 3), .inr (6, [.ref (hC_saved 3), .int ((va_up c_saved_count 3 o17) 3)])), ((hC_saved 3), .inl (tc.1, 24, .inl ((va_up c_saved_codes 3 o16) 3))), ((hR_saved 4), .inr (6, [.ref (hC_saved 4), .int ((va_up c_saved_count 3 o17) 4)])), ((hC_saved 4), .inl (tc.1, 24, .inl ((va_up c_saved_codes 3 o16) 4))), ((hR_saved 5), .inr (6, [.ref (hC_saved 5), .int ((va_up c_saved_count 3 o17) 5)])), ((hC_saved 5), .inl (tc.1, 24, .inl ((va_up c_saved_codes 3 o16) 5))), ((hR_saved 6), .inr (6, [.ref (hC_saved 6), .int ((va_up c_saved_count 3 o17) 6)])), ((hC_saved 6), .inl (tc.1, 24, .inl ((va_up c_saved_codes 3 o16) 6))), ((hR_saved 7), .inr (6, [.ref (hC_saved 7), .int ((va_up c_saved_count 3 o17) 7)])), ((hC_saved 7), .inl (tc.1, 24, .inl ((va_up c_saved_codes 3 o16) 7))), ((hR_saved 8), .inr (6, [.ref (hC_saved 8), .int ((va_up c_saved_count 3 o17) 8)])), ((hC_saved 8), .inl (tc.1, 24, .inl ((va_up c_saved_codes 3 o16) 8))), ((hR_saved 9), .inr (6, [.ref (hC_saved 9), .int ((va_up c_saved_count 3 o17) 9)])), ((hC_saved 9), .inl (tc.1, 24, .inl ((va_up c_saved_codes 3 o16) 9))), (h_p1, .inr (6, [.ref h_p1_codes, .int c_p1_count])), (h_p1_codes, .inl (tc.1, 24, .inl c_p1_codes))]) [(false, 0), (false, 1), (false, 2), (false, 3), (false, 4), (false, 5), (false, 6), (false, 7), (true, 0), (true, 1), (false, 10), (false, 11), (false, 12), (false, 13), (false, 14), (false, 15), (false, 16), (false, 17), (false, 18), (false, 19), (false, 20), (false, 21), (true, 2), (true, 3)] (fun _ => rfl) (by decide +kernel) (fun o16 o17 => ?_)
    refine j_aload C d2_save_41 0 rfl ?_
    refine j_get C d2_save_42 fl2_11 0 rfl rfl ?_
    refine j_aload C d2_save_45 0 rfl ?_
    refine j_get C d2_save_46 fl2_18 0 rfl rfl ?_
    refine j_aald C d2_save_49 1 rfl (fun j18 hj18 => ?_)
    exact j_aret C d2_save_50 rfl
  · refine j_aload C d2_save_37 1 rfl ?_
    refine j_callVV2 (As := [.ref h_p1]) C d2_save_38 mv2_31 (kX6_become _ _ tc (hR_saved 4) (hC_saved 4) h_p1 h_p1_codes (c_saved_codes 4) (c_saved_count 4) c_p1_codes c_p1_count) ⟨rfl, rfl, Nat.le_of_ble_eq_true rfl, Nat.le_of_ble_eq_true rfl⟩ rfl 10 rfl [10, 11, 22, 23] rfl rfl rfl (Nat.le_of_ble_eq_true rfl) (fun o19 o20 => [(h_, .inr (2, [.ref h_saved, .int x1, .int x2])), (h_saved, .inl (tc.2.2, 10, .inr (.inr (.inr (.inr fun j => some (hR_saved j)))))), ((hR_saved 0), .inr (6, [.ref (hC_saved 0), .int ((va_up c_saved_count 4 o20) 0)])), ((hC_saved 0), .inl (tc.1, 24, .inl ((va_up c_saved_codes 4 o19) 0))), ((hR_saved 1), .inr (6, [.ref (hC_saved 1), .int ((va_up c_saved_count 4 o20) 1)])), ((hC_saved 1), .inl (tc.1, 24, .inl ((va_up c_saved_codes 4 o19) 1))), ((hR_saved 2), .inr (6, [.ref (hC_saved 2), .int ((va_up c_saved_count 4 o20) 2)])), ((hC_saved 2), .inl (tc.1, 24, .inl ((va_up c_saved_codes 4 o19) 2))), ((hR_saved 3), .inr (6, [.ref (hC_saved 3), .int ((va_up c_saved_count 4 o20) 3)])), ((hC_saved 3), .inl (tc.1, 24, .inl ((va_up c_saved_codes 4 o19) 3))), ((hR_saved 4), .inr (6, [.ref (hC_saved 4), .int ((va_up c_saved_count 4 o20) 4)])), ((hC_saved 4), .inl (tc.1, 24, .inl ((va_up c_saved_codes 4 o19) 4))), ((hR_saved 5), .inr (6, [.ref (hC_saved 5), .int ((va_up c_saved_count 4 o20) 5)])), ((hC_saved 5), .inl (tc.1, 24, .inl ((va_up c_saved_codes 4 o19) 5))), ((hR_saved 6), .inr (6, [.ref (hC_saved 6), .int ((va_up c_saved_count 4 o20) 6)])), ((hC_saved 6), .inl (tc.1, 24, .inl ((va_up c_saved_codes 4 o19) 6))), ((hR_saved 7), .inr (6, [.ref (hC_saved 7), .int ((va_up c_saved_count 4 o20) 7)])), ((hC_saved 7), .inl (tc.1, 24, .inl ((va_up c_saved_codes 4 o19) 7))), ((hR_saved 8), .inr (6, [.ref (hC_saved 8), .int ((va_up c_saved_count 4 o20) 8)])), ((hC_saved 8), .inl (tc.1, 24, .inl ((va_up c_saved_codes 4 o19) 8))), ((hR_saved 9), .inr (6, [.ref (hC_saved 9), .int ((va_up c_saved_count 4 o20) 9)])), ((hC_saved 9), .inl (tc.1, 24, .inl ((va_up c_saved_codes 4 o19) 9))), (h_p1, .inr (6, [.ref h_p1_codes, .int c_p1_count])), (h_p1_codes, .inl (tc.1, 24, .inl c_p1_codes))]) [(false, 0), (false, 1), (false, 2), (false, 3), (false, 4), (false, 5), (false, 6), (false, 7), (false, 8), (false, 9), (true, 0), (true, 1), (false, 12), (false, 13), (false, 14), (false, 15), (false, 16), (false, 17), (false, 18), (false, 19), (false, 20), (false, 21), (true, 2), (true, 3)] (fun _ => rfl) (by decide +kernel) (fun o19 o20 => ?_)
    refine j_aload C d2_save_41 0 rfl ?_
    refine j_get C d2_save_42 fl2_11 0 rfl rfl ?_
    refine j_aload C d2_save_45 0 rfl ?_
    refine j_get C d2_save_46 fl2_18 0 rfl rfl ?_
    refine j_aald C d2_save_49 1 rfl (fun j21 hj21 => ?_)
    exact j_aret C d2_save_50 rfl
  · refine j_aload C d2_save_37 1 rfl ?_
    refine j_callVV2 (As := [.ref h_p1]) C d2_save_38 mv2_31 (kX6_become _ _ tc (hR_saved 5) (hC_saved 5) h_p1 h_p1_codes (c_saved_codes 5) (c_saved_count 5) c_p1_codes c_p1_count) ⟨rfl, rfl, Nat.le_of_ble_eq_true rfl, Nat.le_of_ble_eq_true rfl⟩ rfl 12 rfl [12, 13, 22, 23] rfl rfl rfl (Nat.le_of_ble_eq_true rfl) (fun o22 o23 => [(h_, .inr (2, [.ref h_saved, .int x1, .int x2])), (h_saved, .inl (tc.2.2, 10, .inr (.inr (.inr (.inr fun j => some (hR_saved j)))))), ((hR_saved 0), .inr (6, [.ref (hC_saved 0), .int ((va_up c_saved_count 5 o23) 0)])), ((hC_saved 0), .inl (tc.1, 24, .inl ((va_up c_saved_codes 5 o22) 0))), ((hR_saved 1), .inr (6, [.ref (hC_saved 1), .int ((va_up c_saved_count 5 o23) 1)])), ((hC_saved 1), .inl (tc.1, 24, .inl ((va_up c_saved_codes 5 o22) 1))), ((hR_saved 2), .inr (6, [.ref (hC_saved 2), .int ((va_up c_saved_count 5 o23) 2)])), ((hC_saved 2), .inl (tc.1, 24, .inl ((va_up c_saved_codes 5 o22) 2))), ((hR_saved 3), .inr (6, [.ref (hC_saved 3), .int ((va_up c_saved_count 5 o23) 3)])), ((hC_saved 3), .inl (tc.1, 24, .inl ((va_up c_saved_codes 5 o22) 3))), ((hR_saved 4), .inr (6, [.ref (hC_saved 4), .int ((va_up c_saved_count 5 o23) 4)])), ((hC_saved 4), .inl (tc.1, 24, .inl ((va_up c_saved_codes 5 o22) 4))), ((hR_saved 5), .inr (6, [.ref (hC_saved 5), .int ((va_up c_saved_count 5 o23) 5)])), ((hC_saved 5), .inl (tc.1, 24, .inl ((va_up c_saved_codes 5 o22) 5))), ((hR_saved 6), .inr (6, [.ref (hC_saved 6), .int ((va_up c_saved_count 5 o23) 6)])), ((hC_saved 6), .inl (tc.1, 24, .inl ((va_up c_saved_codes 5 o22) 6))), ((hR_saved 7), .inr (6, [.ref (hC_saved 7), .int ((va_up c_saved_count 5 o23) 7)])), ((hC_saved 7), .inl (tc.1, 24, .inl ((va_up c_saved_codes 5 o22) 7))), ((hR_saved 8), .inr (6, [.ref (hC_saved 8), .int ((va_up c_saved_count 5 o23) 8)])), ((hC_saved 8), .inl (tc.1, 24, .inl ((va_up c_saved_codes 5 o22) 8))), ((hR_saved 9), .inr (6, [.ref (hC_saved 9), .int ((va_up c_saved_count 5 o23) 9)])), ((hC_saved 9), .inl (tc.1, 24, .inl ((va_up c_saved_codes 5 o22) 9))), (h_p1, .inr (6, [.ref h_p1_codes, .int c_p1_count])), (h_p1_codes, .inl (tc.1, 24, .inl c_p1_codes))]) [(false, 0), (false, 1), (false, 2), (false, 3), (false, 4), (false, 5), (false, 6), (false, 7), (false, 8), (false, 9), (false, 10), (false, 11), (true, 0), (true, 1), (false, 14), (false, 15), (false, 16), (false, 17), (false, 18), (false, 19), (false, 20), (false, 21), (true, 2), (true, 3)] (fun _ => rfl) (by decide +kernel) (fun o22 o23 => ?_)
    refine j_aload C d2_save_41 0 rfl ?_
    refine j_get C d2_save_42 fl2_11 0 rfl rfl ?_
    refine j_aload C d2_save_45 0 rfl ?_
    refine j_get C d2_save_46 fl2_18 0 rfl rfl ?_
    refine j_aald C d2_save_49 1 rfl (fun j24 hj24 => ?_)
    exact j_aret C d2_save_50 rfl
  · refine j_aload C d2_save_37 1 rfl ?_
    refine j_callVV2 (As := [.ref h_p1]) C d2_save_38 mv2_31 (kX6_become _ _ tc (hR_saved 6) (hC_saved 6) h_p1 h_p1_codes (c_saved_codes 6) (c_saved_count 6) c_p1_codes c_p1_count) ⟨rfl, rfl, Nat.le_of_ble_eq_true rfl, Nat.le_of_ble_eq_true rfl⟩ rfl 14 rfl [14, 15, 22, 23] rfl rfl rfl (Nat.le_of_ble_eq_true rfl) (fun o25 o26 => [(h_, .inr (2, [.ref h_saved, .int x1, .int x2])), (h_saved, .inl (tc.2.2, 10, .inr (.inr (.inr (.inr fun j => some (hR_saved j)))))), ((hR_saved 0), .inr (6, [.ref (hC_saved 0), .int ((va_up c_saved_count 6 o26) 0)])), ((hC_saved 0), .inl (tc.1, 24, .inl ((va_up c_saved_codes 6 o25) 0))), ((hR_saved 1), .inr (6, [.ref (hC_saved 1), .int ((va_up c_saved_count 6 o26) 1)])), ((hC_saved 1), .inl (tc.1, 24, .inl ((va_up c_saved_codes 6 o25) 1))), ((hR_saved 2), .inr (6, [.ref (hC_saved 2), .int ((va_up c_saved_count 6 o26) 2)])), ((hC_saved 2), .inl (tc.1, 24, .inl ((va_up c_saved_codes 6 o25) 2))), ((hR_saved 3), .inr (6, [.ref (hC_saved 3), .int ((va_up c_saved_count 6 o26) 3)])), ((hC_saved 3), .inl (tc.1, 24, .inl ((va_up c_saved_codes 6 o25) 3))), ((hR_saved 4), .inr (6, [.ref (hC_saved 4), .int ((va_up c_saved_count 6 o26) 4)])), ((hC_saved 4), .inl (tc.1, 24, .inl ((va_up c_saved_codes 6 o25) 4))), ((hR_saved 5), .inr (6, [.ref (hC_saved 5), .int ((va_up c_saved_count 6 o26) 5)])), ((hC_saved 5), .inl (tc.1, 24, .inl ((va_up c_saved_codes 6 o25) 5))), ((hR_saved 6), .inr (6, [.ref (hC_saved 6), .int ((va_up c_saved_count 6 o26) 6)])), ((hC_saved 6), .inl (tc.1, 24, .inl ((va_up c_saved_codes 6 o25) 6))), ((hR_saved 7), .inr (6, [.ref (hC_saved 7), .int ((va_up c_saved_count 6 o26) 7)])), ((hC_saved 7), .inl (tc.1, 24, .inl ((va_up c_saved_codes 6 o25) 7))), ((hR_saved 8), .inr (6, [.ref (hC_saved 8), .int ((va_up c_saved_count 6 o26) 8)])), ((hC_saved 8), .inl (tc.1, 24, .inl ((va_up c_saved_codes 6 o25) 8))), ((hR_saved 9), .inr (6, [.ref (hC_saved 9), .int ((va_up c_saved_count 6 o26) 9)])), ((hC_saved 9), .inl (tc.1, 24, .inl ((va_up c_saved_codes 6 o25) 9))), (h_p1, .inr (6, [.ref h_p1_codes, .int c_p1_count])), (h_p1_codes, .inl (tc.1, 24, .inl c_p1_codes))]) [(false, 0), (false, 1), (false, 2), (false, 3), (false, 4), (false, 5), (false, 6), (false, 7), (false, 8), (false, 9), (false, 10), (false, 11), (false, 12), (false, 13), (true, 0), (true, 1), (false, 16), (false, 17), (false, 18), (false, 19), (false, 20), (false, 21), (true, 2), (true, 3)] (fun _ => rfl) (by decide +kernel) (fun o25 o26 => ?_)
    refine j_aload C d2_save_41 0 rfl ?_
    refine j_get C d2_save_42 fl2_11 0 rfl rfl ?_
    refine j_aload C d2_save_45 0 rfl ?_
    refine j_get C d2_save_46 fl2_18 0 rfl rfl ?_
    refine j_aald C d2_save_49 1 rfl (fun j27 hj27 => ?_)
    exact j_aret C d2_save_50 rfl
  · refine j_aload C d2_save_37 1 rfl ?_
    refine j_callVV2 (As := [.ref h_p1]) C d2_save_38 mv2_31 (kX6_become _ _ tc (hR_saved 7) (hC_saved 7) h_p1 h_p1_codes (c_saved_codes 7) (c_saved_count 7) c_p1_codes c_p1_count) ⟨rfl, rfl, Nat.le_of_ble_eq_true rfl, Nat.le_of_ble_eq_true rfl⟩ rfl 16 rfl [16, 17, 22, 23] rfl rfl rfl (Nat.le_of_ble_eq_true rfl) (fun o28 o29 => [(h_, .inr (2, [.ref h_saved, .int x1, .int x2])), (h_saved, .inl (tc.2.2, 10, .inr (.inr (.inr (.inr fun j => some (hR_saved j)))))), ((hR_saved 0), .inr (6, [.ref (hC_saved 0), .int ((va_up c_saved_count 7 o29) 0)])), ((hC_saved 0), .inl (tc.1, 24, .inl ((va_up c_saved_codes 7 o28) 0))), ((hR_saved 1), .inr (6, [.ref (hC_saved 1), .int ((va_up c_saved_count 7 o29) 1)])), ((hC_saved 1), .inl (tc.1, 24, .inl ((va_up c_saved_codes 7 o28) 1))), ((hR_saved 2), .inr (6, [.ref (hC_saved 2), .int ((va_up c_saved_count 7 o29) 2)])), ((hC_saved 2), .inl (tc.1, 24, .inl ((va_up c_saved_codes 7 o28) 2))), ((hR_saved 3), .inr (6, [.ref (hC_saved 3), .int ((va_up c_saved_count 7 o29) 3)])), ((hC_saved 3), .inl (tc.1, 24, .inl ((va_up c_saved_codes 7 o28) 3))), ((hR_saved 4), .inr (6, [.ref (hC_saved 4), .int ((va_up c_saved_count 7 o29) 4)])), ((hC_saved 4), .inl (tc.1, 24, .inl ((va_up c_saved_codes 7 o28) 4))), ((hR_saved 5), .inr (6, [.ref (hC_saved 5), .int ((va_up c_saved_count 7 o29) 5)])), ((hC_saved 5), .inl (tc.1, 24, .inl ((va_up c_saved_codes 7 o28) 5))), ((hR_saved 6), .inr (6, [.ref (hC_saved 6), .int ((va_up c_saved_count 7 o29) 6)])), ((hC_saved 6), .inl (tc.1, 24, .inl ((va_up c_saved_codes 7 o28) 6))), ((hR_saved 7), .inr (6, [.ref (hC_saved 7), .int ((va_up c_saved_count 7 o29) 7)])), ((hC_saved 7), .inl (tc.1, 24, .inl ((va_up c_saved_codes 7 o28) 7))), ((hR_saved 8), .inr (6, [.ref (hC_saved 8), .int ((va_up c_saved_count 7 o29) 8)])), ((hC_saved 8), .inl (tc.1, 24, .inl ((va_up c_saved_codes 7 o28) 8))), ((hR_saved 9), .inr (6, [.ref (hC_saved 9), .int ((va_up c_saved_count 7 o29) 9)])), ((hC_saved 9), .inl (tc.1, 24, .inl ((va_up c_saved_codes 7 o28) 9))), (h_p1, .inr (6, [.ref h_p1_codes, .int c_p1_count])), (h_p1_codes, .inl (tc.1, 24, .inl c_p1_codes))]) [(false, 0), (false, 1), (false, 2), (false, 3), (false, 4), (false, 5), (false, 6), (false, 7), (false, 8), (false, 9), (false, 10), (false, 11), (false, 12), (false, 13), (false, 14), (false, 15), (true, 0), (true, 1), (false, 18), (false, 19), (false, 20), (false, 21), (true, 2), (true, 3)] (fun _ => rfl) (by decide +kernel) (fun o28 o29 => ?_)
    refine j_aload C d2_save_41 0 rfl ?_
    refine j_get C d2_save_42 fl2_11 0 rfl rfl ?_
    refine j_aload C d2_save_45 0 rfl ?_
    refine j_get C d2_save_46 fl2_18 0 rfl rfl ?_
    refine j_aald C d2_save_49 1 rfl (fun j30 hj30 => ?_)
    exact j_aret C d2_save_50 rfl
  · refine j_aload C d2_save_37 1 rfl ?_
    refine j_callVV2 (As := [.ref h_p1]) C d2_save_38 mv2_31 (kX6_become _ _ tc (hR_saved 8) (hC_saved 8) h_p1 h_p1_codes (c_saved_codes 8) (c_saved_count 8) c_p1_codes c_p1_count) ⟨rfl, rfl, Nat.le_of_ble_eq_true rfl, Nat.le_of_ble_eq_true rfl⟩ rfl 18 rfl [18, 19, 22, 23] rfl rfl rfl (Nat.le_of_ble_eq_true rfl) (fun o31 o32 => [(h_, .inr (2, [.ref h_saved, .int x1, .int x2])), (h_saved, .inl (tc.2.2, 10, .inr (.inr (.inr (.inr fun j => some (hR_saved j)))))), ((hR_saved 0), .inr (6, [.ref (hC_saved 0), .int ((va_up c_saved_count 8 o32) 0)])), ((hC_saved 0), .inl (tc.1, 24, .inl ((va_up c_saved_codes 8 o31) 0))), ((hR_saved 1), .inr (6, [.ref (hC_saved 1), .int ((va_up c_saved_count 8 o32) 1)])), ((hC_saved 1), .inl (tc.1, 24, .inl ((va_up c_saved_codes 8 o31) 1))), ((hR_saved 2), .inr (6, [.ref (hC_saved 2), .int ((va_up c_saved_count 8 o32) 2)])), ((hC_saved 2), .inl (tc.1, 24, .inl ((va_up c_saved_codes 8 o31) 2))), ((hR_saved 3), .inr (6, [.ref (hC_saved 3), .int ((va_up c_saved_count 8 o32) 3)])), ((hC_saved 3), .inl (tc.1, 24, .inl ((va_up c_saved_codes 8 o31) 3))), ((hR_saved 4), .inr (6, [.ref (hC_saved 4), .int ((va_up c_saved_count 8 o32) 4)])), ((hC_saved 4), .inl (tc.1, 24, .inl ((va_up c_saved_codes 8 o31) 4))), ((hR_saved 5), .inr (6, [.ref (hC_saved 5), .int ((va_up c_saved_count 8 o32) 5)])), ((hC_saved 5), .inl (tc.1, 24, .inl ((va_up c_saved_codes 8 o31) 5))), ((hR_saved 6), .inr (6, [.ref (hC_saved 6), .int ((va_up c_saved_count 8 o32) 6)])), ((hC_saved 6), .inl (tc.1, 24, .inl ((va_up c_saved_codes 8 o31) 6))), ((hR_saved 7), .inr (6, [.ref (hC_saved 7), .int ((va_up c_saved_count 8 o32) 7)])), ((hC_saved 7), .inl (tc.1, 24, .inl ((va_up c_saved_codes 8 o31) 7))), ((hR_saved 8), .inr (6, [.ref (hC_saved 8), .int ((va_up c_saved_count 8 o32) 8)])), ((hC_saved 8), .inl (tc.1, 24, .inl ((va_up c_saved_codes 8 o31) 8))), ((hR_saved 9), .inr (6, [.ref (hC_saved 9), .int ((va_up c_saved_count 8 o32) 9)])), ((hC_saved 9), .inl (tc.1, 24, .inl ((va_up c_saved_codes 8 o31) 9))), (h_p1, .inr (6, [.ref h_p1_codes, .int c_p1_count])), (h_p1_codes, .inl (tc.1, 24, .inl c_p1_codes))]) [(false, 0), (false, 1), (false, 2), (false, 3), (false, 4), (false, 5), (false, 6), (false, 7), (false, 8), (false, 9), (false, 10), (false, 11), (false, 12), (false, 13), (false, 14), (false, 15), (false, 16), (false, 17), (true, 0), (true, 1), (false, 20), (false, 21), (true, 2), (true, 3)] (fun _ => rfl) (by decide +kernel) (fun o31 o32 => ?_)
    refine j_aload C d2_save_41 0 rfl ?_
    refine j_get C d2_save_42 fl2_11 0 rfl rfl ?_
    refine j_aload C d2_save_45 0 rfl ?_
    refine j_get C d2_save_46 fl2_18 0 rfl rfl ?_
    refine j_aald C d2_save_49 1 rfl (fun j33 hj33 => ?_)
    exact j_aret C d2_save_50 rfl
  · refine j_aload C d2_save_37 1 rfl ?_
    refine j_callVV2 (As := [.ref h_p1]) C d2_save_38 mv2_31 (kX6_become _ _ tc (hR_saved 9) (hC_saved 9) h_p1 h_p1_codes (c_saved_codes 9) (c_saved_count 9) c_p1_codes c_p1_count) ⟨rfl, rfl, Nat.le_of_ble_eq_true rfl, Nat.le_of_ble_eq_true rfl⟩ rfl 20 rfl [20, 21, 22, 23] rfl rfl rfl (Nat.le_of_ble_eq_true rfl) (fun o34 o35 => [(h_, .inr (2, [.ref h_saved, .int x1, .int x2])), (h_saved, .inl (tc.2.2, 10, .inr (.inr (.inr (.inr fun j => some (hR_saved j)))))), ((hR_saved 0), .inr (6, [.ref (hC_saved 0), .int ((va_up c_saved_count 9 o35) 0)])), ((hC_saved 0), .inl (tc.1, 24, .inl ((va_up c_saved_codes 9 o34) 0))), ((hR_saved 1), .inr (6, [.ref (hC_saved 1), .int ((va_up c_saved_count 9 o35) 1)])), ((hC_saved 1), .inl (tc.1, 24, .inl ((va_up c_saved_codes 9 o34) 1))), ((hR_saved 2), .inr (6, [.ref (hC_saved 2), .int ((va_up c_saved_count 9 o35) 2)])), ((hC_saved 2), .inl (tc.1, 24, .inl ((va_up c_saved_codes 9 o34) 2))), ((hR_saved 3), .inr (6, [.ref (hC_saved 3), .int ((va_up c_saved_count 9 o35) 3)])), ((hC_saved 3), .inl (tc.1, 24, .inl ((va_up c_saved_codes 9 o34) 3))), ((hR_saved 4), .inr (6, [.ref (hC_saved 4), .int ((va_up c_saved_count 9 o35) 4)])), ((hC_saved 4), .inl (tc.1, 24, .inl ((va_up c_saved_codes 9 o34) 4))), ((hR_saved 5), .inr (6, [.ref (hC_saved 5), .int ((va_up c_saved_count 9 o35) 5)])), ((hC_saved 5), .inl (tc.1, 24, .inl ((va_up c_saved_codes 9 o34) 5))), ((hR_saved 6), .inr (6, [.ref (hC_saved 6), .int ((va_up c_saved_count 9 o35) 6)])), ((hC_saved 6), .inl (tc.1, 24, .inl ((va_up c_saved_codes 9 o34) 6))), ((hR_saved 7), .inr (6, [.ref (hC_saved 7), .int ((va_up c_saved_count 9 o35) 7)])), ((hC_saved 7), .inl (tc.1, 24, .inl ((va_up c_saved_codes 9 o34) 7))), ((hR_saved 8), .inr (6, [.ref (hC_saved 8), .int ((va_up c_saved_count 9 o35) 8)])), ((hC_saved 8), .inl (tc.1, 24, .inl ((va_up c_saved_codes 9 o34) 8))), ((hR_saved 9), .inr (6, [.ref (hC_saved 9), .int ((va_up c_saved_count 9 o35) 9)])), ((hC_saved 9), .inl (tc.1, 24, .inl ((va_up c_saved_codes 9 o34) 9))), (h_p1, .inr (6, [.ref h_p1_codes, .int c_p1_count])), (h_p1_codes, .inl (tc.1, 24, .inl c_p1_codes))]) [(false, 0), (false, 1), (false, 2), (false, 3), (false, 4), (false, 5), (false, 6), (false, 7), (false, 8), (false, 9), (false, 10), (false, 11), (false, 12), (false, 13), (false, 14), (false, 15), (false, 16), (false, 17), (false, 18), (false, 19), (true, 0), (true, 1), (true, 2), (true, 3)] (fun _ => rfl) (by decide +kernel) (fun o34 o35 => ?_)
    refine j_aload C d2_save_41 0 rfl ?_
    refine j_get C d2_save_42 fl2_11 0 rfl rfl ?_
    refine j_aload C d2_save_45 0 rfl ?_
    refine j_get C d2_save_46 fl2_18 0 rfl rfl ?_
    refine j_aald C d2_save_49 1 rfl (fun j36 hj36 => ?_)
    exact j_aret C d2_save_50 rfl

theorem d2_restore_0 : jda cX2_restore 0 1 1 := Or.inl ⟨1, by decide +kernel⟩
theorem d2_restore_1 : jda cX2_restore 1 0 2 := Or.inl ⟨0, by decide +kernel⟩
theorem d2_restore_2 : jd cX2_restore 2 (.getfield 11) 3 5 := by decide +kernel
theorem d2_restore_5 : jda cX2_restore 5 0 6 := Or.inl ⟨0, by decide +kernel⟩
theorem d2_restore_6 : jd cX2_restore 6 (.getfield 18) 3 9 := by decide +kernel
theorem d2_restore_9 : jd cX2_restore 9 (.aaload) 1 10 := by decide +kernel
theorem d2_restore_10 : jd cX2_restore 10 (.invokevirtual 31) 3 13 := by decide +kernel
theorem d2_restore_13 : jda cX2_restore 13 0 14 := Or.inl ⟨0, by decide +kernel⟩
theorem d2_restore_14 : jda cX2_restore 14 0 15 := Or.inl ⟨0, by decide +kernel⟩
theorem d2_restore_15 : jd cX2_restore 15 (.getfield 18) 3 18 := by decide +kernel
theorem d2_restore_18 : jdk cX2_restore 18 10 20 := Or.inr (Or.inl ⟨10, by decide +kernel⟩)
theorem d2_restore_20 : jd cX2_restore 20 (.iadd) 1 21 := by decide +kernel
theorem d2_restore_21 : jdk cX2_restore 21 1 22 := Or.inl ⟨1, by decide +kernel⟩
theorem d2_restore_22 : jd cX2_restore 22 (.isub) 1 23 := by decide +kernel
theorem d2_restore_23 : jdk cX2_restore 23 10 25 := Or.inr (Or.inl ⟨10, by decide +kernel⟩)
theorem d2_restore_25 : jd cX2_restore 25 (.irem) 1 26 := by decide +kernel
theorem d2_restore_26 : jd cX2_restore 26 (.putfield 18) 3 29 := by decide +kernel
theorem d2_restore_29 : jda cX2_restore 29 0 30 := Or.inl ⟨0, by decide +kernel⟩
theorem d2_restore_30 : jd cX2_restore 30 (.dup) 1 31 := by decide +kernel
theorem d2_restore_31 : jd cX2_restore 31 (.getfield 22) 3 34 := by decide +kernel
theorem d2_restore_34 : jdk cX2_restore 34 1 35 := Or.inl ⟨1, by decide +kernel⟩
theorem d2_restore_35 : jd cX2_restore 35 (.isub) 1 36 := by decide +kernel
theorem d2_restore_36 : jd cX2_restore 36 (.putfield 22) 3 39 := by decide +kernel
theorem d2_restore_39 : decode cX2_restore 39 = .ok (.return_, 1) := by decide +kernel
set_option maxHeartbeats 4000000 in
set_option maxRecDepth 100000 in
theorem kX2_restore (l : Launch) (D : va_G) (tc : jTC) (h_ h_saved h_p1 h_p1_codes : Nat) (hR_saved hC_saved : Nat → Nat) (c_saved_codes : (Nat → Nat → Int32)) (c_saved_count : (Nat → Int32)) (c_newest : Int32) (c_size : Int32) (c_p1_codes : (Nat → Int32)) (c_p1_count : Int32) : ctV l D tc yX2_restore (Cond.code yX2_restore cX2_restore 2 none :: jtb) ({ frames := 2, cells := 0, slots := 0, locals := 61 } : Room) [.ref h_, .ref h_p1] [(h_, .inr (2, [.ref h_saved, .int c_newest, .int c_size])), (h_saved, .inl (tc.2.2, 10, .inr (.inr (.inr (.inr fun j => some (hR_saved j)))))), ((hR_saved 0), .inr (6, [.ref (hC_saved 0), .int (c_saved_count 0)])), ((hC_saved 0), .inl (tc.1, 24, .inl (c_saved_codes 0))), ((hR_saved 1), .inr (6, [.ref (hC_saved 1), .int (c_saved_count 1)])), ((hC_saved 1), .inl (tc.1, 24, .inl (c_saved_codes 1))), ((hR_saved 2), .inr (6, [.ref (hC_saved 2), .int (c_saved_count 2)])), ((hC_saved 2), .inl (tc.1, 24, .inl (c_saved_codes 2))), ((hR_saved 3), .inr (6, [.ref (hC_saved 3), .int (c_saved_count 3)])), ((hC_saved 3), .inl (tc.1, 24, .inl (c_saved_codes 3))), ((hR_saved 4), .inr (6, [.ref (hC_saved 4), .int (c_saved_count 4)])), ((hC_saved 4), .inl (tc.1, 24, .inl (c_saved_codes 4))), ((hR_saved 5), .inr (6, [.ref (hC_saved 5), .int (c_saved_count 5)])), ((hC_saved 5), .inl (tc.1, 24, .inl (c_saved_codes 5))), ((hR_saved 6), .inr (6, [.ref (hC_saved 6), .int (c_saved_count 6)])), ((hC_saved 6), .inl (tc.1, 24, .inl (c_saved_codes 6))), ((hR_saved 7), .inr (6, [.ref (hC_saved 7), .int (c_saved_count 7)])), ((hC_saved 7), .inl (tc.1, 24, .inl (c_saved_codes 7))), ((hR_saved 8), .inr (6, [.ref (hC_saved 8), .int (c_saved_count 8)])), ((hC_saved 8), .inl (tc.1, 24, .inl (c_saved_codes 8))), ((hR_saved 9), .inr (6, [.ref (hC_saved 9), .int (c_saved_count 9)])), ((hC_saved 9), .inl (tc.1, 24, .inl (c_saved_codes 9))), (h_p1, .inr (6, [.ref h_p1_codes, .int c_p1_count])), (h_p1_codes, .inl (tc.1, 24, .inl c_p1_codes))] (fX2_restore c_saved_codes c_saved_count c_newest c_size c_p1_codes c_p1_count) (fun (u : Int32 × Int32 × (Nat → Int32) × Int32) => [(h_, .inr (2, [.ref h_saved, .int u.1, .int u.2.1])), (h_saved, .inl (tc.2.2, 10, .inr (.inr (.inr (.inr fun j => some (hR_saved j)))))), ((hR_saved 0), .inr (6, [.ref (hC_saved 0), .int (c_saved_count 0)])), ((hC_saved 0), .inl (tc.1, 24, .inl (c_saved_codes 0))), ((hR_saved 1), .inr (6, [.ref (hC_saved 1), .int (c_saved_count 1)])), ((hC_saved 1), .inl (tc.1, 24, .inl (c_saved_codes 1))), ((hR_saved 2), .inr (6, [.ref (hC_saved 2), .int (c_saved_count 2)])), ((hC_saved 2), .inl (tc.1, 24, .inl (c_saved_codes 2))), ((hR_saved 3), .inr (6, [.ref (hC_saved 3), .int (c_saved_count 3)])), ((hC_saved 3), .inl (tc.1, 24, .inl (c_saved_codes 3))), ((hR_saved 4), .inr (6, [.ref (hC_saved 4), .int (c_saved_count 4)])), ((hC_saved 4), .inl (tc.1, 24, .inl (c_saved_codes 4))), ((hR_saved 5), .inr (6, [.ref (hC_saved 5), .int (c_saved_count 5)])), ((hC_saved 5), .inl (tc.1, 24, .inl (c_saved_codes 5))), ((hR_saved 6), .inr (6, [.ref (hC_saved 6), .int (c_saved_count 6)])), ((hC_saved 6), .inl (tc.1, 24, .inl (c_saved_codes 6))), ((hR_saved 7), .inr (6, [.ref (hC_saved 7), .int (c_saved_count 7)])), ((hC_saved 7), .inl (tc.1, 24, .inl (c_saved_codes 7))), ((hR_saved 8), .inr (6, [.ref (hC_saved 8), .int (c_saved_count 8)])), ((hC_saved 8), .inl (tc.1, 24, .inl (c_saved_codes 8))), ((hR_saved 9), .inr (6, [.ref (hC_saved 9), .int (c_saved_count 9)])), ((hC_saved 9), .inl (tc.1, 24, .inl (c_saved_codes 9))), (h_p1, .inr (6, [.ref h_p1_codes, .int u.2.2.2])), (h_p1_codes, .inl (tc.1, 24, .inl u.2.2.1))]) := by
  refine ctV_of (lv0 := [(0, .ref h_), (1, .ref h_p1)]) (by decide +kernel) (Nat.le_of_ble_eq_true rfl) rfl (fun X C => ?_)
  unfold fX2_restore
  refine j_aload C d2_restore_0 1 rfl ?_
  refine j_aload C d2_restore_1 0 rfl ?_
  refine j_get C d2_restore_2 fl2_11 0 rfl rfl ?_
  refine j_aload C d2_restore_5 0 rfl ?_
  refine j_get C d2_restore_6 fl2_18 0 rfl rfl ?_
  refine j_aald C d2_restore_9 1 rfl (fun j1 hj1 => ?_)
  rcases j10 hj1 with rfl | rfl | rfl | rfl | rfl | rfl | rfl | rfl | rfl | rfl
  · refine j_callVV2 (As := [.ref (hR_saved 0)]) C d2_restore_10 mv2_31 (kX6_become _ _ tc h_p1 h_p1_codes (hR_saved 0) (hC_saved 0) c_p1_codes c_p1_count (c_saved_codes 0) (c_saved_count 0)) ⟨rfl, rfl, Nat.le_of_ble_eq_true rfl, Nat.le_of_ble_eq_true rfl⟩ rfl 22 rfl [22, 23, 2, 3] rfl rfl rfl (Nat.le_of_ble_eq_true rfl) (fun o6 o7 => [(h_, .inr (2, [.ref h_saved, .int c_newest, .int c_size])), (h_saved, .inl (tc.2.2, 10, .inr (.inr (.inr (.inr fun j => some (hR_saved j)))))), ((hR_saved 0), .inr (6, [.ref (hC_saved 0), .int (c_saved_count 0)])), ((hC_saved 0), .inl (tc.1, 24, .inl (c_saved_codes 0))), ((hR_saved 1), .inr (6, [.ref (hC_saved 1), .int (c_saved_count 1)])), ((hC_saved 1), .inl (tc.1, 24, .inl (c_saved_codes 1))), ((hR_saved 2), .inr (6, [.ref (hC_saved 2), .int (c_saved_count 2)])), ((hC_saved 2), .inl (tc.1, 24, .inl (c_saved_codes 2))), ((hR_saved 3), .inr (6, [.ref (hC_saved 3), .int (c_saved_count 3)])), ((hC_saved 3), .inl (tc.1, 24, .inl (c_saved_codes 3))), ((hR_saved 4), .inr (6, [.ref (hC_saved 4), .int (c_saved_count 4)])), ((hC_saved 4), .inl (tc.1, 24, .inl (c_saved_codes 4))), ((hR_saved 5), .inr (6, [.ref (hC_saved 5), .int (c_saved_count 5)])), ((hC_saved 5), .inl (tc.1, 24, .inl (c_saved_codes 5))), ((hR_saved 6), .inr (6, [.ref (hC_saved 6), .int (c_saved_count 6)])), ((hC_saved 6), .inl (tc.1, 24, .inl (c_saved_codes 6))), ((hR_saved 7), .inr (6, [.ref (hC_saved 7), .int (c_saved_count 7)])), ((hC_saved 7), .inl (tc.1, 24, .inl (c_saved_codes 7))), ((hR_saved 8), .inr (6, [.ref (hC_saved 8), .int (c_saved_count 8)])), ((hC_saved 8), .inl (tc.1, 24, .inl (c_saved_codes 8))), ((hR_saved 9), .inr (6, [.ref (hC_saved 9), .int (c_saved_count 9)])), ((hC_saved 9), .inl (tc.1, 24, .inl (c_saved_codes 9))), (h_p1, .inr (6, [.ref h_p1_codes, .int o7])), (h_p1_codes, .inl (tc.1, 24, .inl o6))]) [(false, 0), (false, 1), (true, 2), (true, 3), (false, 4), (false, 5), (false, 6), (false, 7), (false, 8), (false, 9), (false, 10), (false, 11), (false, 12), (false, 13), (false, 14), (false, 15), (false, 16), (false, 17), (false, 18), (false, 19), (false, 20), (false, 21), (true, 0), (true, 1)] (fun _ => rfl) (by decide +kernel) (fun o6 o7 => ?_)
    refine j_aload C d2_restore_13 0 rfl ?_
    refine j_aload C d2_restore_14 0 rfl ?_
    refine j_get C d2_restore_15 fl2_18 0 rfl rfl ?_
    refine j_const C d2_restore_18 ?_
    refine j_iadd C d2_restore_20 ?_
    refine j_const C d2_restore_21 ?_
    refine j_isub C d2_restore_22 ?_
    refine j_const C d2_restore_23 ?_
    refine j_irem C d2_restore_25 (by decide) ?_
    refine j_leti (fun x8 => ?_)
    refine j_putq C d2_restore_26 fq2_18 0 rfl rfl rfl (Nat.le_of_ble_eq_true rfl) (ws' := [(h_, .inr (2, [.ref h_saved, .int x8, .int c_size])), (h_saved, .inl (tc.2.2, 10, .inr (.inr (.inr (.inr fun j => some (hR_saved j)))))), ((hR_saved 0), .inr (6, [.ref (hC_saved 0), .int (c_saved_count 0)])), ((hC_saved 0), .inl (tc.1, 24, .inl (c_saved_codes 0))), ((hR_saved 1), .inr (6, [.ref (hC_saved 1), .int (c_saved_count 1)])), ((hC_saved 1), .inl (tc.1, 24, .inl (c_saved_codes 1))), ((hR_saved 2), .inr (6, [.ref (hC_saved 2), .int (c_saved_count 2)])), ((hC_saved 2), .inl (tc.1, 24, .inl (c_saved_codes 2))), ((hR_saved 3), .inr (6, [.ref (hC_saved 3), .int (c_saved_count 3)])), ((hC_saved 3), .inl (tc.1, 24, .inl (c_saved_codes 3))), ((hR_saved 4), .inr (6, [.ref (hC_saved 4), .int (c_saved_count 4)])), ((hC_saved 4), .inl (tc.1, 24, .inl (c_saved_codes 4))), ((hR_saved 5), .inr (6, [.ref (hC_saved 5), .int (c_saved_count 5)])), ((hC_saved 5), .inl (tc.1, 24, .inl (c_saved_codes 5))), ((hR_saved 6), .inr (6, [.ref (hC_saved 6), .int (c_saved_count 6)])), ((hC_saved 6), .inl (tc.1, 24, .inl (c_saved_codes 6))), ((hR_saved 7), .inr (6, [.ref (hC_saved 7), .int (c_saved_count 7)])), ((hC_saved 7), .inl (tc.1, 24, .inl (c_saved_codes 7))), ((hR_saved 8), .inr (6, [.ref (hC_saved 8), .int (c_saved_count 8)])), ((hC_saved 8), .inl (tc.1, 24, .inl (c_saved_codes 8))), ((hR_saved 9), .inr (6, [.ref (hC_saved 9), .int (c_saved_count 9)])), ((hC_saved 9), .inl (tc.1, 24, .inl (c_saved_codes 9))), (h_p1, .inr (6, [.ref h_p1_codes, .int o7])), (h_p1_codes, .inl (tc.1, 24, .inl o6))]) rfl ?_
    refine j_aload C d2_restore_29 0 rfl ?_
    refine j_dup C d2_restore_30 rfl ?_
    refine j_get C d2_restore_31 fl2_22 0 rfl rfl ?_
    refine j_const C d2_restore_34 ?_
    refine j_isub C d2_restore_35 ?_
    refine j_leti (fun x9 => ?_)
    refine j_putq C d2_restore_36 fq2_22 0 rfl rfl rfl (Nat.le_of_ble_eq_true rfl) (ws' := [(h_, .inr (2, [.ref h_saved, .int x8, .int x9])), (h_saved, .inl (tc.2.2, 10, .inr (.inr (.inr (.inr fun j => some (hR_saved j)))))), ((hR_saved 0), .inr (6, [.ref (hC_saved 0), .int (c_saved_count 0)])), ((hC_saved 0), .inl (tc.1, 24, .inl (c_saved_codes 0))), ((hR_saved 1), .inr (6, [.ref (hC_saved 1), .int (c_saved_count 1)])), ((hC_saved 1), .inl (tc.1, 24, .inl (c_saved_codes 1))), ((hR_saved 2), .inr (6, [.ref (hC_saved 2), .int (c_saved_count 2)])), ((hC_saved 2), .inl (tc.1, 24, .inl (c_saved_codes 2))), ((hR_saved 3), .inr (6, [.ref (hC_saved 3), .int (c_saved_count 3)])), ((hC_saved 3), .inl (tc.1, 24, .inl (c_saved_codes 3))), ((hR_saved 4), .inr (6, [.ref (hC_saved 4), .int (c_saved_count 4)])), ((hC_saved 4), .inl (tc.1, 24, .inl (c_saved_codes 4))), ((hR_saved 5), .inr (6, [.ref (hC_saved 5), .int (c_saved_count 5)])), ((hC_saved 5), .inl (tc.1, 24, .inl (c_saved_codes 5))), ((hR_saved 6), .inr (6, [.ref (hC_saved 6), .int (c_saved_count 6)])), ((hC_saved 6), .inl (tc.1, 24, .inl (c_saved_codes 6))), ((hR_saved 7), .inr (6, [.ref (hC_saved 7), .int (c_saved_count 7)])), ((hC_saved 7), .inl (tc.1, 24, .inl (c_saved_codes 7))), ((hR_saved 8), .inr (6, [.ref (hC_saved 8), .int (c_saved_count 8)])), ((hC_saved 8), .inl (tc.1, 24, .inl (c_saved_codes 8))), ((hR_saved 9), .inr (6, [.ref (hC_saved 9), .int (c_saved_count 9)])), ((hC_saved 9), .inl (tc.1, 24, .inl (c_saved_codes 9))), (h_p1, .inr (6, [.ref h_p1_codes, .int o7])), (h_p1_codes, .inl (tc.1, 24, .inl o6))]) rfl ?_
    exact j_vret C d2_restore_39 rfl
  · refine j_callVV2 (As := [.ref (hR_saved 1)]) C d2_restore_10 mv2_31 (kX6_become _ _ tc h_p1 h_p1_codes (hR_saved 1) (hC_saved 1) c_p1_codes c_p1_count (c_saved_codes 1) (c_saved_count 1)) ⟨rfl, rfl, Nat.le_of_ble_eq_true rfl, Nat.le_of_ble_eq_true rfl⟩ rfl 22 rfl [22, 23, 4, 5] rfl rfl rfl (Nat.le_of_ble_eq_true rfl) (fun o10 o11 => [(h_, .inr (2, [.ref h_saved, .int c_newest, .int c_size])), (h_saved, .inl (tc.2.2, 10, .inr (.inr (.inr (.inr fun j => some (hR_saved j)))))), ((hR_saved 0), .inr (6, [.ref (hC_saved 0), .int (c_saved_count 0)])), ((hC_saved 0), .inl (tc.1, 24, .inl (c_saved_codes 0))), ((hR_saved 1), .inr (6, [.ref (hC_saved 1), .int (c_saved_count 1)])), ((hC_saved 1), .inl (tc.1, 24, .inl (c_saved_codes 1))), ((hR_saved 2), .inr (6, [.ref (hC_saved 2), .int (c_saved_count 2)])), ((hC_saved 2), .inl (tc.1, 24, .inl (c_saved_codes 2))), ((hR_saved 3), .inr (6, [.ref (hC_saved 3), .int (c_saved_count 3)])), ((hC_saved 3), .inl (tc.1, 24, .inl (c_saved_codes 3))), ((hR_saved 4), .inr (6, [.ref (hC_saved 4), .int (c_saved_count 4)])), ((hC_saved 4), .inl (tc.1, 24, .inl (c_saved_codes 4))), ((hR_saved 5), .inr (6, [.ref (hC_saved 5), .int (c_saved_count 5)])), ((hC_saved 5), .inl (tc.1, 24, .inl (c_saved_codes 5))), ((hR_saved 6), .inr (6, [.ref (hC_saved 6), .int (c_saved_count 6)])), ((hC_saved 6), .inl (tc.1, 24, .inl (c_saved_codes 6))), ((hR_saved 7), .inr (6, [.ref (hC_saved 7), .int (c_saved_count 7)])), ((hC_saved 7), .inl (tc.1, 24, .inl (c_saved_codes 7))), ((hR_saved 8), .inr (6, [.ref (hC_saved 8), .int (c_saved_count 8)])), ((hC_saved 8), .inl (tc.1, 24, .inl (c_saved_codes 8))), ((hR_saved 9), .inr (6, [.ref (hC_saved 9), .int (c_saved_count 9)])), ((hC_saved 9), .inl (tc.1, 24, .inl (c_saved_codes 9))), (h_p1, .inr (6, [.ref h_p1_codes, .int o11])), (h_p1_codes, .inl (tc.1, 24, .inl o10))]) [(false, 0), (false, 1), (false, 2), (false, 3), (true, 2), (true, 3), (false, 6), (false, 7), (false, 8), (false, 9), (false, 10), (false, 11), (false, 12), (false, 13), (false, 14), (false, 15), (false, 16), (false, 17), (false, 18), (false, 19), (false, 20), (false, 21), (true, 0), (true, 1)] (fun _ => rfl) (by decide +kernel) (fun o10 o11 => ?_)
    refine j_aload C d2_restore_13 0 rfl ?_
    refine j_aload C d2_restore_14 0 rfl ?_
    refine j_get C d2_restore_15 fl2_18 0 rfl rfl ?_
    refine j_const C d2_restore_18 ?_
    refine j_iadd C d2_restore_20 ?_
    refine j_const C d2_restore_21 ?_
    refine j_isub C d2_restore_22 ?_
    refine j_const C d2_restore_23 ?_
    refine j_irem C d2_restore_25 (by decide) ?_
    refine j_leti (fun x12 => ?_)
    refine j_putq C d2_restore_26 fq2_18 0 rfl rfl rfl (Nat.le_of_ble_eq_true rfl) (ws' := [(h_, .inr (2, [.ref h_saved, .int x12, .int c_size])), (h_saved, .inl (tc.2.2, 10, .inr (.inr (.inr (.inr fun j => some (hR_saved j)))))), ((hR_saved 0), .inr (6, [.ref (hC_saved 0), .int (c_saved_count 0)])), ((hC_saved 0), .inl (tc.1, 24, .inl (c_saved_codes 0))), ((hR_saved 1), .inr (6, [.ref (hC_saved 1), .int (c_saved_count 1)])), ((hC_saved 1), .inl (tc.1, 24, .inl (c_saved_codes 1))), ((hR_saved 2), .inr (6, [.ref (hC_saved 2), .int (c_saved_count 2)])), ((hC_saved 2), .inl (tc.1, 24, .inl (c_saved_codes 2))), ((hR_saved 3), .inr (6, [.ref (hC_saved 3), .int (c_saved_count 3)])), ((hC_saved 3), .inl (tc.1, 24, .inl (c_saved_codes 3))), ((hR_saved 4), .inr (6, [.ref (hC_saved 4), .int (c_saved_count 4)])), ((hC_saved 4), .inl (tc.1, 24, .inl (c_saved_codes 4))), ((hR_saved 5), .inr (6, [.ref (hC_saved 5), .int (c_saved_count 5)])), ((hC_saved 5), .inl (tc.1, 24, .inl (c_saved_codes 5))), ((hR_saved 6), .inr (6, [.ref (hC_saved 6), .int (c_saved_count 6)])), ((hC_saved 6), .inl (tc.1, 24, .inl (c_saved_codes 6))), ((hR_saved 7), .inr (6, [.ref (hC_saved 7), .int (c_saved_count 7)])), ((hC_saved 7), .inl (tc.1, 24, .inl (c_saved_codes 7))), ((hR_saved 8), .inr (6, [.ref (hC_saved 8), .int (c_saved_count 8)])), ((hC_saved 8), .inl (tc.1, 24, .inl (c_saved_codes 8))), ((hR_saved 9), .inr (6, [.ref (hC_saved 9), .int (c_saved_count 9)])), ((hC_saved 9), .inl (tc.1, 24, .inl (c_saved_codes 9))), (h_p1, .inr (6, [.ref h_p1_codes, .int o11])), (h_p1_codes, .inl (tc.1, 24, .inl o10))]) rfl ?_
    refine j_aload C d2_restore_29 0 rfl ?_
    refine j_dup C d2_restore_30 rfl ?_
    refine j_get C d2_restore_31 fl2_22 0 rfl rfl ?_
    refine j_const C d2_restore_34 ?_
    refine j_isub C d2_restore_35 ?_
    refine j_leti (fun x13 => ?_)
    refine j_putq C d2_restore_36 fq2_22 0 rfl rfl rfl (Nat.le_of_ble_eq_true rfl) (ws' := [(h_, .inr (2, [.ref h_saved, .int x12, .int x13])), (h_saved, .inl (tc.2.2, 10, .inr (.inr (.inr (.inr fun j => some (hR_saved j)))))), ((hR_saved 0), .inr (6, [.ref (hC_saved 0), .int (c_saved_count 0)])), ((hC_saved 0), .inl (tc.1, 24, .inl (c_saved_codes 0))), ((hR_saved 1), .inr (6, [.ref (hC_saved 1), .int (c_saved_count 1)])), ((hC_saved 1), .inl (tc.1, 24, .inl (c_saved_codes 1))), ((hR_saved 2), .inr (6, [.ref (hC_saved 2), .int (c_saved_count 2)])), ((hC_saved 2), .inl (tc.1, 24, .inl (c_saved_codes 2))), ((hR_saved 3), .inr (6, [.ref (hC_saved 3), .int (c_saved_count 3)])), ((hC_saved 3), .inl (tc.1, 24, .inl (c_saved_codes 3))), ((hR_saved 4), .inr (6, [.ref (hC_saved 4), .int (c_saved_count 4)])), ((hC_saved 4), .inl (tc.1, 24, .inl (c_saved_codes 4))), ((hR_saved 5), .inr (6, [.ref (hC_saved 5), .int (c_saved_count 5)])), ((hC_saved 5), .inl (tc.1, 24, .inl (c_saved_codes 5))), ((hR_saved 6), .inr (6, [.ref (hC_saved 6), .int (c_saved_count 6)])), ((hC_saved 6), .inl (tc.1, 24, .inl (c_saved_codes 6))), ((hR_saved 7), .inr (6, [.ref (hC_saved 7), .int (c_saved_count 7)])), ((hC_saved 7), .inl (tc.1, 24, .inl (c_saved_codes 7))), ((hR_saved 8), .inr (6, [.ref (hC_saved 8), .int (c_saved_count 8)])), ((hC_saved 8), .inl (tc.1, 24, .inl (c_saved_codes 8))), ((hR_saved 9), .inr (6, [.ref (hC_saved 9), .int (c_saved_count 9)])), ((hC_saved 9), .inl (tc.1, 24, .inl (c_saved_codes 9))), (h_p1, .inr (6, [.ref h_p1_codes, .int o11])), (h_p1_codes, .inl (tc.1, 24, .inl o10))]) rfl ?_
    exact j_vret C d2_restore_39 rfl
  · refine j_callVV2 (As := [.ref (hR_saved 2)]) C d2_restore_10 mv2_31 (kX6_become _ _ tc h_p1 h_p1_codes (hR_saved 2) (hC_saved 2) c_p1_codes c_p1_count (c_saved_codes 2) (c_saved_count 2)) ⟨rfl, rfl, Nat.le_of_ble_eq_true rfl, Nat.le_of_ble_eq_true rfl⟩ rfl 22 rfl [22, 23, 6, 7] rfl rfl rfl (Nat.le_of_ble_eq_true rfl) (fun o14 o15 => [(h_, .inr (2, [.ref h_saved, .int c_newest, .int c_size])), (h_saved, .inl (tc.2.2, 10, .inr (.inr (.inr (.inr fun j => some (hR_saved j)))))), ((hR_saved 0), .inr (6, [.ref (hC_saved 0), .int (c_saved_count 0)])), ((hC_saved 0), .inl (tc.1, 24, .inl (c_saved_codes 0))), ((hR_saved 1), .inr (6, [.ref (hC_saved 1), .int (c_saved_count 1)])), ((hC_saved 1), .inl (tc.1, 24, .inl (c_saved_codes 1))), ((hR_saved 2), .inr (6, [.ref (hC_saved 2), .int (c_saved_count 2)])), ((hC_saved 2), .inl (tc.1, 24, .inl (c_saved_codes 2))), ((hR_saved 3), .inr (6, [.ref (hC_saved 3), .int (c_saved_count 3)])), ((hC_saved 3), .inl (tc.1, 24, .inl (c_saved_codes 3))), ((hR_saved 4), .inr (6, [.ref (hC_saved 4), .int (c_saved_count 4)])), ((hC_saved 4), .inl (tc.1, 24, .inl (c_saved_codes 4))), ((hR_saved 5), .inr (6, [.ref (hC_saved 5), .int (c_saved_count 5)])), ((hC_saved 5), .inl (tc.1, 24, .inl (c_saved_codes 5))), ((hR_saved 6), .inr (6, [.ref (hC_saved 6), .int (c_saved_count 6)])), ((hC_saved 6), .inl (tc.1, 24, .inl (c_saved_codes 6))), ((hR_saved 7), .inr (6, [.ref (hC_saved 7), .int (c_saved_count 7)])), ((hC_saved 7), .inl (tc.1, 24, .inl (c_saved_codes 7))), ((hR_saved 8), .inr (6, [.ref (hC_saved 8), .int (c_saved_count 8)])), ((hC_saved 8), .inl (tc.1, 24, .inl (c_saved_codes 8))), ((hR_saved 9), .inr (6, [.ref (hC_saved 9), .int (c_saved_count 9)])), ((hC_saved 9), .inl (tc.1, 24, .inl (c_saved_codes 9))), (h_p1, .inr (6, [.ref h_p1_codes, .int o15])), (h_p1_codes, .inl (tc.1, 24, .inl o14))]) [(false, 0), (false, 1), (false, 2), (false, 3), (false, 4), (false, 5), (true, 2), (true, 3), (false, 8), (false, 9), (false, 10), (false, 11), (false, 12), (false, 13), (false, 14), (false, 15), (false, 16), (false, 17), (false, 18), (false, 19), (false, 20), (false, 21), (true, 0), (true, 1)] (fun _ => rfl) (by decide +kernel) (fun o14 o15 => ?_)
    refine j_aload C d2_restore_13 0 rfl ?_
    refine j_aload C d2_restore_14 0 rfl ?_
    refine j_get C d2_restore_15 fl2_18 0 rfl rfl ?_
    refine j_const C d2_restore_18 ?_
    refine j_iadd C d2_restore_20 ?_
    refine j_const C d2_restore_21 ?_
    refine j_isub C d2_restore_22 ?_
    refine j_const C d2_restore_23 ?_
    refine j_irem C d2_restore_25 (by decide) ?_
    refine j_leti (fun x16 => ?_)
    refine j_putq C d2_restore_26 fq2_18 0 rfl rfl rfl (Nat.le_of_ble_eq_true rfl) (ws' := [(h_, .inr (2, [.ref h_saved, .int x16, .int c_size])), (h_saved, .inl (tc.2.2, 10, .inr (.inr (.inr (.inr fun j => some (hR_saved j)))))), ((hR_saved 0), .inr (6, [.ref (hC_saved 0), .int (c_saved_count 0)])), ((hC_saved 0), .inl (tc.1, 24, .inl (c_saved_codes 0))), ((hR_saved 1), .inr (6, [.ref (hC_saved 1), .int (c_saved_count 1)])), ((hC_saved 1), .inl (tc.1, 24, .inl (c_saved_codes 1))), ((hR_saved 2), .inr (6, [.ref (hC_saved 2), .int (c_saved_count 2)])), ((hC_saved 2), .inl (tc.1, 24, .inl (c_saved_codes 2))), ((hR_saved 3), .inr (6, [.ref (hC_saved 3), .int (c_saved_count 3)])), ((hC_saved 3), .inl (tc.1, 24, .inl (c_saved_codes 3))), ((hR_saved 4), .inr (6, [.ref (hC_saved 4), .int (c_saved_count 4)])), ((hC_saved 4), .inl (tc.1, 24, .inl (c_saved_codes 4))), ((hR_saved 5), .inr (6, [.ref (hC_saved 5), .int (c_saved_count 5)])), ((hC_saved 5), .inl (tc.1, 24, .inl (c_saved_codes 5))), ((hR_saved 6), .inr (6, [.ref (hC_saved 6), .int (c_saved_count 6)])), ((hC_saved 6), .inl (tc.1, 24, .inl (c_saved_codes 6))), ((hR_saved 7), .inr (6, [.ref (hC_saved 7), .int (c_saved_count 7)])), ((hC_saved 7), .inl (tc.1, 24, .inl (c_saved_codes 7))), ((hR_saved 8), .inr (6, [.ref (hC_saved 8), .int (c_saved_count 8)])), ((hC_saved 8), .inl (tc.1, 24, .inl (c_saved_codes 8))), ((hR_saved 9), .inr (6, [.ref (hC_saved 9), .int (c_saved_count 9)])), ((hC_saved 9), .inl (tc.1, 24, .inl (c_saved_codes 9))), (h_p1, .inr (6, [.ref h_p1_codes, .int o15])), (h_p1_codes, .inl (tc.1, 24, .inl o14))]) rfl ?_
    refine j_aload C d2_restore_29 0 rfl ?_
    refine j_dup C d2_restore_30 rfl ?_
    refine j_get C d2_restore_31 fl2_22 0 rfl rfl ?_
    refine j_const C d2_restore_34 ?_
    refine j_isub C d2_restore_35 ?_
    refine j_leti (fun x17 => ?_)
    refine j_putq C d2_restore_36 fq2_22 0 rfl rfl rfl (Nat.le_of_ble_eq_true rfl) (ws' := [(h_, .inr (2, [.ref h_saved, .int x16, .int x17])), (h_saved, .inl (tc.2.2, 10, .inr (.inr (.inr (.inr fun j => some (hR_saved j)))))), ((hR_saved 0), .inr (6, [.ref (hC_saved 0), .int (c_saved_count 0)])), ((hC_saved 0), .inl (tc.1, 24, .inl (c_saved_codes 0))), ((hR_saved 1), .inr (6, [.ref (hC_saved 1), .int (c_saved_count 1)])), ((hC_saved 1), .inl (tc.1, 24, .inl (c_saved_codes 1))), ((hR_saved 2), .inr (6, [.ref (hC_saved 2), .int (c_saved_count 2)])), ((hC_saved 2), .inl (tc.1, 24, .inl (c_saved_codes 2))), ((hR_saved 3), .inr (6, [.ref (hC_saved 3), .int (c_saved_count 3)])), ((hC_saved 3), .inl (tc.1, 24, .inl (c_saved_codes 3))), ((hR_saved 4), .inr (6, [.ref (hC_saved 4), .int (c_saved_count 4)])), ((hC_saved 4), .inl (tc.1, 24, .inl (c_saved_codes 4))), ((hR_saved 5), .inr (6, [.ref (hC_saved 5), .int (c_saved_count 5)])), ((hC_saved 5), .inl (tc.1, 24, .inl (c_saved_codes 5))), ((hR_saved 6), .inr (6, [.ref (hC_saved 6), .int (c_saved_count 6)])), ((hC_saved 6), .inl (tc.1, 24, .inl (c_saved_codes 6))), ((hR_saved 7), .inr (6, [.ref (hC_saved 7), .int (c_saved_count 7)])), ((hC_saved 7), .inl (tc.1, 24, .inl (c_saved_codes 7))), ((hR_saved 8), .inr (6, [.ref (hC_saved 8), .int (c_saved_count 8)])), ((hC_saved 8), .inl (tc.1, 24, .inl (c_saved_codes 8))), ((hR_saved 9), .inr (6, [.ref (hC_saved 9), .int (c_saved_count 9)])), ((hC_saved 9), .inl (tc.1, 24, .inl (c_saved_codes 9))), (h_p1, .inr (6, [.ref h_p1_codes, .int o15])), (h_p1_codes, .inl (tc.1, 24, .inl o14))]) rfl ?_
    exact j_vret C d2_restore_39 rfl
  · refine j_callVV2 (As := [.ref (hR_saved 3)]) C d2_restore_10 mv2_31 (kX6_become _ _ tc h_p1 h_p1_codes (hR_saved 3) (hC_saved 3) c_p1_codes c_p1_count (c_saved_codes 3) (c_saved_count 3)) ⟨rfl, rfl, Nat.le_of_ble_eq_true rfl, Nat.le_of_ble_eq_true rfl⟩ rfl 22 rfl [22, 23, 8, 9] rfl rfl rfl (Nat.le_of_ble_eq_true rfl) (fun o18 o19 => [(h_, .inr (2, [.ref h_saved, .int c_newest, .int c_size])), (h_saved, .inl (tc.2.2, 10, .inr (.inr (.inr (.inr fun j => some (hR_saved j)))))), ((hR_saved 0), .inr (6, [.ref (hC_saved 0), .int (c_saved_count 0)])), ((hC_saved 0), .inl (tc.1, 24, .inl (c_saved_codes 0))), ((hR_saved 1), .inr (6, [.ref (hC_saved 1), .int (c_saved_count 1)])), ((hC_saved 1), .inl (tc.1, 24, .inl (c_saved_codes 1))), ((hR_saved 2), .inr (6, [.ref (hC_saved 2), .int (c_saved_count 2)])), ((hC_saved 2), .inl (tc.1, 24, .inl (c_saved_codes 2))), ((hR_saved 3), .inr (6, [.ref (hC_saved 3), .int (c_saved_count 3)])), ((hC_saved 3), .inl (tc.1, 24, .inl (c_saved_codes 3))), ((hR_saved 4), .inr (6, [.ref (hC_saved 4), .int (c_saved_count 4)])), ((hC_saved 4), .inl (tc.1, 24, .inl (c_saved_codes 4))), ((hR_saved 5), .inr (6, [.ref (hC_saved 5), .int (c_saved_count 5)])), ((hC_saved 5), .inl (tc.1, 24, .inl (c_saved_codes 5))), ((hR_saved 6), .inr (6, [.ref (hC_saved 6), .int (c_saved_count 6)])), ((hC_saved 6), .inl (tc.1, 24, .inl (c_saved_codes 6))), ((hR_saved 7), .inr (6, [.ref (hC_saved 7), .int (c_saved_count 7)])), ((hC_saved 7), .inl (tc.1, 24, .inl (c_saved_codes 7))), ((hR_saved 8), .inr (6, [.ref (hC_saved 8), .int (c_saved_count 8)])), ((hC_saved 8), .inl (tc.1, 24, .inl (c_saved_codes 8))), ((hR_saved 9), .inr (6, [.ref (hC_saved 9), .int (c_saved_count 9)])), ((hC_saved 9), .inl (tc.1, 24, .inl (c_saved_codes 9))), (h_p1, .inr (6, [.ref h_p1_codes, .int o19])), (h_p1_codes, .inl (tc.1, 24, .inl o18))]) [(false, 0), (false, 1), (false, 2), (false, 3), (false, 4), (false, 5), (false, 6), (false, 7), (true, 2), (true, 3), (false, 10), (false, 11), (false, 12), (false, 13), (false, 14), (false, 15), (false, 16), (false, 17), (false, 18), (false, 19), (false, 20), (false, 21), (true, 0), (true, 1)] (fun _ => rfl) (by decide +kernel) (fun o18 o19 => ?_)
    refine j_aload C d2_restore_13 0 rfl ?_
    refine j_aload C d2_restore_14 0 rfl ?_
    refine j_get C d2_restore_15 fl2_18 0 rfl rfl ?_
    refine j_const C d2_restore_18 ?_
    refine j_iadd C d2_restore_20 ?_
    refine j_const C d2_restore_21 ?_
    refine j_isub C d2_restore_22 ?_
    refine j_const C d2_restore_23 ?_
    refine j_irem C d2_restore_25 (by decide) ?_
    refine j_leti (fun x20 => ?_)
    refine j_putq C d2_restore_26 fq2_18 0 rfl rfl rfl (Nat.le_of_ble_eq_true rfl) (ws' := [(h_, .inr (2, [.ref h_saved, .int x20, .int c_size])), (h_saved, .inl (tc.2.2, 10, .inr (.inr (.inr (.inr fun j => some (hR_saved j)))))), ((hR_saved 0), .inr (6, [.ref (hC_saved 0), .int (c_saved_count 0)])), ((hC_saved 0), .inl (tc.1, 24, .inl (c_saved_codes 0))), ((hR_saved 1), .inr (6, [.ref (hC_saved 1), .int (c_saved_count 1)])), ((hC_saved 1), .inl (tc.1, 24, .inl (c_saved_codes 1))), ((hR_saved 2), .inr (6, [.ref (hC_saved 2), .int (c_saved_count 2)])), ((hC_saved 2), .inl (tc.1, 24, .inl (c_saved_codes 2))), ((hR_saved 3), .inr (6, [.ref (hC_saved 3), .int (c_saved_count 3)])), ((hC_saved 3), .inl (tc.1, 24, .inl (c_saved_codes 3))), ((hR_saved 4), .inr (6, [.ref (hC_saved 4), .int (c_saved_count 4)])), ((hC_saved 4), .inl (tc.1, 24, .inl (c_saved_codes 4))), ((hR_saved 5), .inr (6, [.ref (hC_saved 5), .int (c_saved_count 5)])), ((hC_saved 5), .inl (tc.1, 24, .inl (c_saved_codes 5))), ((hR_saved 6), .inr (6, [.ref (hC_saved 6), .int (c_saved_count 6)])), ((hC_saved 6), .inl (tc.1, 24, .inl (c_saved_codes 6))), ((hR_saved 7), .inr (6, [.ref (hC_saved 7), .int (c_saved_count 7)])), ((hC_saved 7), .inl (tc.1, 24, .inl (c_saved_codes 7))), ((hR_saved 8), .inr (6, [.ref (hC_saved 8), .int (c_saved_count 8)])), ((hC_saved 8), .inl (tc.1, 24, .inl (c_saved_codes 8))), ((hR_saved 9), .inr (6, [.ref (hC_saved 9), .int (c_saved_count 9)])), ((hC_saved 9), .inl (tc.1, 24, .inl (c_saved_codes 9))), (h_p1, .inr (6, [.ref h_p1_codes, .int o19])), (h_p1_codes, .inl (tc.1, 24, .inl o18))]) rfl ?_
    refine j_aload C d2_restore_29 0 rfl ?_
    refine j_dup C d2_restore_30 rfl ?_
    refine j_get C d2_restore_31 fl2_22 0 rfl rfl ?_
    refine j_const C d2_restore_34 ?_
    refine j_isub C d2_restore_35 ?_
    refine j_leti (fun x21 => ?_)
    refine j_putq C d2_restore_36 fq2_22 0 rfl rfl rfl (Nat.le_of_ble_eq_true rfl) (ws' := [(h_, .inr (2, [.ref h_saved, .int x20, .int x21])), (h_saved, .inl (tc.2.2, 10, .inr (.inr (.inr (.inr fun j => some (hR_saved j)))))), ((hR_saved 0), .inr (6, [.ref (hC_saved 0), .int (c_saved_count 0)])), ((hC_saved 0), .inl (tc.1, 24, .inl (c_saved_codes 0))), ((hR_saved 1), .inr (6, [.ref (hC_saved 1), .int (c_saved_count 1)])), ((hC_saved 1), .inl (tc.1, 24, .inl (c_saved_codes 1))), ((hR_saved 2), .inr (6, [.ref (hC_saved 2), .int (c_saved_count 2)])), ((hC_saved 2), .inl (tc.1, 24, .inl (c_saved_codes 2))), ((hR_saved 3), .inr (6, [.ref (hC_saved 3), .int (c_saved_count 3)])), ((hC_saved 3), .inl (tc.1, 24, .inl (c_saved_codes 3))), ((hR_saved 4), .inr (6, [.ref (hC_saved 4), .int (c_saved_count 4)])), ((hC_saved 4), .inl (tc.1, 24, .inl (c_saved_codes 4))), ((hR_saved 5), .inr (6, [.ref (hC_saved 5), .int (c_saved_count 5)])), ((hC_saved 5), .inl (tc.1, 24, .inl (c_saved_codes 5))), ((hR_saved 6), .inr (6, [.ref (hC_saved 6), .int (c_saved_count 6)])), ((hC_saved 6), .inl (tc.1, 24, .inl (c_saved_codes 6))), ((hR_saved 7), .inr (6, [.ref (hC_saved 7), .int (c_saved_count 7)])), ((hC_saved 7), .inl (tc.1, 24, .inl (c_saved_codes 7))), ((hR_saved 8), .inr (6, [.ref (hC_saved 8), .int (c_saved_count 8)])), ((hC_saved 8), .inl (tc.1, 24, .inl (c_saved_codes 8))), ((hR_saved 9), .inr (6, [.ref (hC_saved 9), .int (c_saved_count 9)])), ((hC_saved 9), .inl (tc.1, 24, .inl (c_saved_codes 9))), (h_p1, .inr (6, [.ref h_p1_codes, .int o19])), (h_p1_codes, .inl (tc.1, 24, .inl o18))]) rfl ?_
    exact j_vret C d2_restore_39 rfl
  · refine j_callVV2 (As := [.ref (hR_saved 4)]) C d2_restore_10 mv2_31 (kX6_become _ _ tc h_p1 h_p1_codes (hR_saved 4) (hC_saved 4) c_p1_codes c_p1_count (c_saved_codes 4) (c_saved_count 4)) ⟨rfl, rfl, Nat.le_of_ble_eq_true rfl, Nat.le_of_ble_eq_true rfl⟩ rfl 22 rfl [22, 23, 10, 11] rfl rfl rfl (Nat.le_of_ble_eq_true rfl) (fun o22 o23 => [(h_, .inr (2, [.ref h_saved, .int c_newest, .int c_size])), (h_saved, .inl (tc.2.2, 10, .inr (.inr (.inr (.inr fun j => some (hR_saved j)))))), ((hR_saved 0), .inr (6, [.ref (hC_saved 0), .int (c_saved_count 0)])), ((hC_saved 0), .inl (tc.1, 24, .inl (c_saved_codes 0))), ((hR_saved 1), .inr (6, [.ref (hC_saved 1), .int (c_saved_count 1)])), ((hC_saved 1), .inl (tc.1, 24, .inl (c_saved_codes 1))), ((hR_saved 2), .inr (6, [.ref (hC_saved 2), .int (c_saved_count 2)])), ((hC_saved 2), .inl (tc.1, 24, .inl (c_saved_codes 2))), ((hR_saved 3), .inr (6, [.ref (hC_saved 3), .int (c_saved_count 3)])), ((hC_saved 3), .inl (tc.1, 24, .inl (c_saved_codes 3))), ((hR_saved 4), .inr (6, [.ref (hC_saved 4), .int (c_saved_count 4)])), ((hC_saved 4), .inl (tc.1, 24, .inl (c_saved_codes 4))), ((hR_saved 5), .inr (6, [.ref (hC_saved 5), .int (c_saved_count 5)])), ((hC_saved 5), .inl (tc.1, 24, .inl (c_saved_codes 5))), ((hR_saved 6), .inr (6, [.ref (hC_saved 6), .int (c_saved_count 6)])), ((hC_saved 6), .inl (tc.1, 24, .inl (c_saved_codes 6))), ((hR_saved 7), .inr (6, [.ref (hC_saved 7), .int (c_saved_count 7)])), ((hC_saved 7), .inl (tc.1, 24, .inl (c_saved_codes 7))), ((hR_saved 8), .inr (6, [.ref (hC_saved 8), .int (c_saved_count 8)])), ((hC_saved 8), .inl (tc.1, 24, .inl (c_saved_codes 8))), ((hR_saved 9), .inr (6, [.ref (hC_saved 9), .int (c_saved_count 9)])), ((hC_saved 9), .inl (tc.1, 24, .inl (c_saved_codes 9))), (h_p1, .inr (6, [.ref h_p1_codes, .int o23])), (h_p1_codes, .inl (tc.1, 24, .inl o22))]) [(false, 0), (false, 1), (false, 2), (false, 3), (false, 4), (false, 5), (false, 6), (false, 7), (false, 8), (false, 9), (true, 2), (true, 3), (false, 12), (false, 13), (false, 14), (false, 15), (false, 16), (false, 17), (false, 18), (false, 19), (false, 20), (false, 21), (true, 0), (true, 1)] (fun _ => rfl) (by decide +kernel) (fun o22 o23 => ?_)
    refine j_aload C d2_restore_13 0 rfl ?_
    refine j_aload C d2_restore_14 0 rfl ?_
    refine j_get C d2_restore_15 fl2_18 0 rfl rfl ?_
    refine j_const C d2_restore_18 ?_
    refine j_iadd C d2_restore_20 ?_
    refine j_const C d2_restore_21 ?_
    refine j_isub C d2_restore_22 ?_
    refine j_const C d2_restore_23 ?_
    refine j_irem C d2_restore_25 (by decide) ?_
    refine j_leti (fun x24 => ?_)
    refine j_putq C d2_restore_26 fq2_18 0 rfl rfl rfl (Nat.le_of_ble_eq_true rfl) (ws' := [(h_, .inr (2, [.ref h_saved, .int x24, .int c_size])), (h_saved, .inl (tc.2.2, 10, .inr (.inr (.inr (.inr fun j => some (hR_saved j)))))), ((hR_saved 0), .inr (6, [.ref (hC_saved 0), .int (c_saved_count 0)])), ((hC_saved 0), .inl (tc.1, 24, .inl (c_saved_codes 0))), ((hR_saved 1), .inr (6, [.ref (hC_saved 1), .int (c_saved_count 1)])), ((hC_saved 1), .inl (tc.1, 24, .inl (c_saved_codes 1))), ((hR_saved 2), .inr (6, [.ref (hC_saved 2), .int (c_saved_count 2)])), ((hC_saved 2), .inl (tc.1, 24, .inl (c_saved_codes 2))), ((hR_saved 3), .inr (6, [.ref (hC_saved 3), .int (c_saved_count 3)])), ((hC_saved 3), .inl (tc.1, 24, .inl (c_saved_codes 3))), ((hR_saved 4), .inr (6, [.ref (hC_saved 4), .int (c_saved_count 4)])), ((hC_saved 4), .inl (tc.1, 24, .inl (c_saved_codes 4))), ((hR_saved 5), .inr (6, [.ref (hC_saved 5), .int (c_saved_count 5)])), ((hC_saved 5), .inl (tc.1, 24, .inl (c_saved_codes 5))), ((hR_saved 6), .inr (6, [.ref (hC_saved 6), .int (c_saved_count 6)])), ((hC_saved 6), .inl (tc.1, 24, .inl (c_saved_codes 6))), ((hR_saved 7), .inr (6, [.ref (hC_saved 7), .int (c_saved_count 7)])), ((hC_saved 7), .inl (tc.1, 24, .inl (c_saved_codes 7))), ((hR_saved 8), .inr (6, [.ref (hC_saved 8), .int (c_saved_count 8)])), ((hC_saved 8), .inl (tc.1, 24, .inl (c_saved_codes 8))), ((hR_saved 9), .inr (6, [.ref (hC_saved 9), .int (c_saved_count 9)])), ((hC_saved 9), .inl (tc.1, 24, .inl (c_saved_codes 9))), (h_p1, .inr (6, [.ref h_p1_codes, .int o23])), (h_p1_codes, .inl (tc.1, 24, .inl o22))]) rfl ?_
    refine j_aload C d2_restore_29 0 rfl ?_
    refine j_dup C d2_restore_30 rfl ?_
    refine j_get C d2_restore_31 fl2_22 0 rfl rfl ?_
    refine j_const C d2_restore_34 ?_
    refine j_isub C d2_restore_35 ?_
    refine j_leti (fun x25 => ?_)
    refine j_putq C d2_restore_36 fq2_22 0 rfl rfl rfl (Nat.le_of_ble_eq_true rfl) (ws' := [(h_, .inr (2, [.ref h_saved, .int x24, .int x25])), (h_saved, .inl (tc.2.2, 10, .inr (.inr (.inr (.inr fun j => some (hR_saved j)))))), ((hR_saved 0), .inr (6, [.ref (hC_saved 0), .int (c_saved_count 0)])), ((hC_saved 0), .inl (tc.1, 24, .inl (c_saved_codes 0))), ((hR_saved 1), .inr (6, [.ref (hC_saved 1), .int (c_saved_count 1)])), ((hC_saved 1), .inl (tc.1, 24, .inl (c_saved_codes 1))), ((hR_saved 2), .inr (6, [.ref (hC_saved 2), .int (c_saved_count 2)])), ((hC_saved 2), .inl (tc.1, 24, .inl (c_saved_codes 2))), ((hR_saved 3), .inr (6, [.ref (hC_saved 3), .int (c_saved_count 3)])), ((hC_saved 3), .inl (tc.1, 24, .inl (c_saved_codes 3))), ((hR_saved 4), .inr (6, [.ref (hC_saved 4), .int (c_saved_count 4)])), ((hC_saved 4), .inl (tc.1, 24, .inl (c_saved_codes 4))), ((hR_saved 5), .inr (6, [.ref (hC_saved 5), .int (c_saved_count 5)])), ((hC_saved 5), .inl (tc.1, 24, .inl (c_saved_codes 5))), ((hR_saved 6), .inr (6, [.ref (hC_saved 6), .int (c_saved_count 6)])), ((hC_saved 6), .inl (tc.1, 24, .inl (c_saved_codes 6))), ((hR_saved 7), .inr (6, [.ref (hC_saved 7), .int (c_saved_count 7)])), ((hC_saved 7), .inl (tc.1, 24, .inl (c_saved_codes 7))), ((hR_saved 8), .inr (6, [.ref (hC_saved 8), .int (c_saved_count 8)])), ((hC_saved 8), .inl (tc.1, 24, .inl (c_saved_codes 8))), ((hR_saved 9), .inr (6, [.ref (hC_saved 9), .int (c_saved_count 9)])), ((hC_saved 9), .inl (tc.1, 24, .inl (c_saved_codes 9))), (h_p1, .inr (6, [.ref h_p1_codes, .int o23])), (h_p1_codes, .inl (tc.1, 24, .inl o22))]) rfl ?_
    exact j_vret C d2_restore_39 rfl
  · refine j_callVV2 (As := [.ref (hR_saved 5)]) C d2_restore_10 mv2_31 (kX6_become _ _ tc h_p1 h_p1_codes (hR_saved 5) (hC_saved 5) c_p1_codes c_p1_count (c_saved_codes 5) (c_saved_count 5)) ⟨rfl, rfl, Nat.le_of_ble_eq_true rfl, Nat.le_of_ble_eq_true rfl⟩ rfl 22 rfl [22, 23, 12, 13] rfl rfl rfl (Nat.le_of_ble_eq_true rfl) (fun o26 o27 => [(h_, .inr (2, [.ref h_saved, .int c_newest, .int c_size])), (h_saved, .inl (tc.2.2, 10, .inr (.inr (.inr (.inr fun j => some (hR_saved j)))))), ((hR_saved 0), .inr (6, [.ref (hC_saved 0), .int (c_saved_count 0)])), ((hC_saved 0), .inl (tc.1, 24, .inl (c_saved_codes 0))), ((hR_saved 1), .inr (6, [.ref (hC_saved 1), .int (c_saved_count 1)])), ((hC_saved 1), .inl (tc.1, 24, .inl (c_saved_codes 1))), ((hR_saved 2), .inr (6, [.ref (hC_saved 2), .int (c_saved_count 2)])), ((hC_saved 2), .inl (tc.1, 24, .inl (c_saved_codes 2))), ((hR_saved 3), .inr (6, [.ref (hC_saved 3), .int (c_saved_count 3)])), ((hC_saved 3), .inl (tc.1, 24, .inl (c_saved_codes 3))), ((hR_saved 4), .inr (6, [.ref (hC_saved 4), .int (c_saved_count 4)])), ((hC_saved 4), .inl (tc.1, 24, .inl (c_saved_codes 4))), ((hR_saved 5), .inr (6, [.ref (hC_saved 5), .int (c_saved_count 5)])), ((hC_saved 5), .inl (tc.1, 24, .inl (c_saved_codes 5))), ((hR_saved 6), .inr (6, [.ref (hC_saved 6), .int (c_saved_count 6)])), ((hC_saved 6), .inl (tc.1, 24, .inl (c_saved_codes 6))), ((hR_saved 7), .inr (6, [.ref (hC_saved 7), .int (c_saved_count 7)])), ((hC_saved 7), .inl (tc.1, 24, .inl (c_saved_codes 7))), ((hR_saved 8), .inr (6, [.ref (hC_saved 8), .int (c_saved_count 8)])), ((hC_saved 8), .inl (tc.1, 24, .inl (c_saved_codes 8))), ((hR_saved 9), .inr (6, [.ref (hC_saved 9), .int (c_saved_count 9)])), ((hC_saved 9), .inl (tc.1, 24, .inl (c_saved_codes 9))), (h_p1, .inr (6, [.ref h_p1_codes, .int o27])), (h_p1_codes, .inl (tc.1, 24, .inl o26))]) [(false, 0), (false, 1), (false, 2), (false, 3), (false, 4), (false, 5), (false, 6), (false, 7), (false, 8), (false, 9), (false, 10), (false, 11), (true, 2), (true, 3), (false, 14), (false, 15), (false, 16), (false, 17), (false, 18), (false, 19), (false, 20), (false, 21), (true, 0), (true, 1)] (fun _ => rfl) (by decide +kernel) (fun o26 o27 => ?_)
    refine j_aload C d2_restore_13 0 rfl ?_
    refine j_aload C d2_restore_14 0 rfl ?_
    refine j_get C d2_restore_15 fl2_18 0 rfl rfl ?_
    refine j_const C d2_restore_18 ?_
    refine j_iadd C d2_restore_20 ?_
    refine j_const C d2_restore_21 ?_
    refine j_isub C d2_restore_22 ?_
    refine j_const C d2_restore_23 ?_
    refine j_irem C d2_restore_25 (by decide) ?_
    refine j_leti (fun x28 => ?_)
    refine j_putq C d2_restore_26 fq2_18 0 rfl rfl rfl (Nat.le_of_ble_eq_true rfl) (ws' := [(h_, .inr (2, [.ref h_saved, .int x28, .int c_size])), (h_saved, .inl (tc.2.2, 10, .inr (.inr (.inr (.inr fun j => some (hR_saved j)))))), ((hR_saved 0), .inr (6, [.ref (hC_saved 0), .int (c_saved_count 0)])), ((hC_saved 0), .inl (tc.1, 24, .inl (c_saved_codes 0))), ((hR_saved 1), .inr (6, [.ref (hC_saved 1), .int (c_saved_count 1)])), ((hC_saved 1), .inl (tc.1, 24, .inl (c_saved_codes 1))), ((hR_saved 2), .inr (6, [.ref (hC_saved 2), .int (c_saved_count 2)])), ((hC_saved 2), .inl (tc.1, 24, .inl (c_saved_codes 2))), ((hR_saved 3), .inr (6, [.ref (hC_saved 3), .int (c_saved_count 3)])), ((hC_saved 3), .inl (tc.1, 24, .inl (c_saved_codes 3))), ((hR_saved 4), .inr (6, [.ref (hC_saved 4), .int (c_saved_count 4)])), ((hC_saved 4), .inl (tc.1, 24, .inl (c_saved_codes 4))), ((hR_saved 5), .inr (6, [.ref (hC_saved 5), .int (c_saved_count 5)])), ((hC_saved 5), .inl (tc.1, 24, .inl (c_saved_codes 5))), ((hR_saved 6), .inr (6, [.ref (hC_saved 6), .int (c_saved_count 6)])), ((hC_saved 6), .inl (tc.1, 24, .inl (c_saved_codes 6))), ((hR_saved 7), .inr (6, [.ref (hC_saved 7), .int (c_saved_count 7)])), ((hC_saved 7), .inl (tc.1, 24, .inl (c_saved_codes 7))), ((hR_saved 8), .inr (6, [.ref (hC_saved 8), .int (c_saved_count 8)])), ((hC_saved 8), .inl (tc.1, 24, .inl (c_saved_codes 8))), ((hR_saved 9), .inr (6, [.ref (hC_saved 9), .int (c_saved_count 9)])), ((hC_saved 9), .inl (tc.1, 24, .inl (c_saved_codes 9))), (h_p1, .inr (6, [.ref h_p1_codes, .int o27])), (h_p1_codes, .inl (tc.1, 24, .inl o26))]) rfl ?_
    refine j_aload C d2_restore_29 0 rfl ?_
    refine j_dup C d2_restore_30 rfl ?_
    refine j_get C d2_restore_31 fl2_22 0 rfl rfl ?_
    refine j_const C d2_restore_34 ?_
    refine j_isub C d2_restore_35 ?_
    refine j_leti (fun x29 => ?_)
    refine j_putq C d2_restore_36 fq2_22 0 rfl rfl rfl (Nat.le_of_ble_eq_true rfl) (ws' := [(h_, .inr (2, [.ref h_saved, .int x28, .int x29])), (h_saved, .inl (tc.2.2, 10, .inr (.inr (.inr (.inr fun j => some (hR_saved j)))))), ((hR_saved 0), .inr (6, [.ref (hC_saved 0), .int (c_saved_count 0)])), ((hC_saved 0), .inl (tc.1, 24, .inl (c_saved_codes 0))), ((hR_saved 1), .inr (6, [.ref (hC_saved 1), .int (c_saved_count 1)])), ((hC_saved 1), .inl (tc.1, 24, .inl (c_saved_codes 1))), ((hR_saved 2), .inr (6, [.ref (hC_saved 2), .int (c_saved_count 2)])), ((hC_saved 2), .inl (tc.1, 24, .inl (c_saved_codes 2))), ((hR_saved 3), .inr (6, [.ref (hC_saved 3), .int (c_saved_count 3)])), ((hC_saved 3), .inl (tc.1, 24, .inl (c_saved_codes 3))), ((hR_saved 4), .inr (6, [.ref (hC_saved 4), .int (c_saved_count 4)])), ((hC_saved 4), .inl (tc.1, 24, .inl (c_saved_codes 4))), ((hR_saved 5), .inr (6, [.ref (hC_saved 5), .int (c_saved_count 5)])), ((hC_saved 5), .inl (tc.1, 24, .inl (c_saved_codes 5))), ((hR_saved 6), .inr (6, [.ref (hC_saved 6), .int (c_saved_count 6)])), ((hC_saved 6), .inl (tc.1, 24, .inl (c_saved_codes 6))), ((hR_saved 7), .inr (6, [.ref (hC_saved 7), .int (c_saved_count 7)])), ((hC_saved 7), .inl (tc.1, 24, .inl (c_saved_codes 7))), ((hR_saved 8), .inr (6, [.ref (hC_saved 8), .int (c_saved_count 8)])), ((hC_saved 8), .inl (tc.1, 24, .inl (c_saved_codes 8))), ((hR_saved 9), .inr (6, [.ref (hC_saved 9), .int (c_saved_count 9)])), ((hC_saved 9), .inl (tc.1, 24, .inl (c_saved_codes 9))), (h_p1, .inr (6, [.ref h_p1_codes, .int o27])), (h_p1_codes, .inl (tc.1, 24, .inl o26))]) rfl ?_
    exact j_vret C d2_restore_39 rfl
  · refine j_callVV2 (As := [.ref (hR_saved 6)]) C d2_restore_10 mv2_31 (kX6_become _ _ tc h_p1 h_p1_codes (hR_saved 6) (hC_saved 6) c_p1_codes c_p1_count (c_saved_codes 6) (c_saved_count 6)) ⟨rfl, rfl, Nat.le_of_ble_eq_true rfl, Nat.le_of_ble_eq_true rfl⟩ rfl 22 rfl [22, 23, 14, 15] rfl rfl rfl (Nat.le_of_ble_eq_true rfl) (fun o30 o31 => [(h_, .inr (2, [.ref h_saved, .int c_newest, .int c_size])), (h_saved, .inl (tc.2.2, 10, .inr (.inr (.inr (.inr fun j => some (hR_saved j)))))), ((hR_saved 0), .inr (6, [.ref (hC_saved 0), .int (c_saved_count 0)])), ((hC_saved 0), .inl (tc.1, 24, .inl (c_saved_codes 0))), ((hR_saved 1), .inr (6, [.ref (hC_saved 1), .int (c_saved_count 1)])), ((hC_saved 1), .inl (tc.1, 24, .inl (c_saved_codes 1))), ((hR_saved 2), .inr (6, [.ref (hC_saved 2), .int (c_saved_count 2)])), ((hC_saved 2), .inl (tc.1, 24, .inl (c_saved_codes 2))), ((hR_saved 3), .inr (6, [.ref (hC_saved 3), .int (c_saved_count 3)])), ((hC_saved 3), .inl (tc.1, 24, .inl (c_saved_codes 3))), ((hR_saved 4), .inr (6, [.ref (hC_saved 4), .int (c_saved_count 4)])), ((hC_saved 4), .inl (tc.1, 24, .inl (c_saved_codes 4))), ((hR_saved 5), .inr (6, [.ref (hC_saved 5), .int (c_saved_count 5)])), ((hC_saved 5), .inl (tc.1, 24, .inl (c_saved_codes 5))), ((hR_saved 6), .inr (6, [.ref (hC_saved 6), .int (c_saved_count 6)])), ((hC_saved 6), .inl (tc.1, 24, .inl (c_saved_codes 6))), ((hR_saved 7), .inr (6, [.ref (hC_saved 7), .int (c_saved_count 7)])), ((hC_saved 7), .inl (tc.1, 24, .inl (c_saved_codes 7))), ((hR_saved 8), .inr (6, [.ref (hC_saved 8), .int (c_saved_count 8)])), ((hC_saved 8), .inl (tc.1, 24, .inl (c_saved_codes 8))), ((hR_saved 9), .inr (6, [.ref (hC_saved 9), .int (c_saved_count 9)])), ((hC_saved 9), .inl (tc.1, 24, .inl (c_saved_codes 9))), (h_p1, .inr (6, [.ref h_p1_codes, .int o31])), (h_p1_codes, .inl (tc.1, 24, .inl o30))]) [(false, 0), (false, 1), (false, 2), (false, 3), (false, 4), (false, 5), (false, 6), (false, 7), (false, 8), (false, 9), (false, 10), (false, 11), (false, 12), (false, 13), (true, 2), (true, 3), (false, 16), (false, 17), (false, 18), (false, 19), (false, 20), (false, 21), (true, 0), (true, 1)] (fun _ => rfl) (by decide +kernel) (fun o30 o31 => ?_)
    refine j_aload C d2_restore_13 0 rfl ?_
    refine j_aload C d2_restore_14 0 rfl ?_
    refine j_get C d2_restore_15 fl2_18 0 rfl rfl ?_
    refine j_const C d2_restore_18 ?_
    refine j_iadd C d2_restore_20 ?_
    refine j_const C d2_restore_21 ?_
    refine j_isub C d2_restore_22 ?_
    refine j_const C d2_restore_23 ?_
    refine j_irem C d2_restore_25 (by decide) ?_
    refine j_leti (fun x32 => ?_)
    refine j_putq C d2_restore_26 fq2_18 0 rfl rfl rfl (Nat.le_of_ble_eq_true rfl) (ws' := [(h_, .inr (2, [.ref h_saved, .int x32, .int c_size])), (h_saved, .inl (tc.2.2, 10, .inr (.inr (.inr (.inr fun j => some (hR_saved j)))))), ((hR_saved 0), .inr (6, [.ref (hC_saved 0), .int (c_saved_count 0)])), ((hC_saved 0), .inl (tc.1, 24, .inl (c_saved_codes 0))), ((hR_saved 1), .inr (6, [.ref (hC_saved 1), .int (c_saved_count 1)])), ((hC_saved 1), .inl (tc.1, 24, .inl (c_saved_codes 1))), ((hR_saved 2), .inr (6, [.ref (hC_saved 2), .int (c_saved_count 2)])), ((hC_saved 2), .inl (tc.1, 24, .inl (c_saved_codes 2))), ((hR_saved 3), .inr (6, [.ref (hC_saved 3), .int (c_saved_count 3)])), ((hC_saved 3), .inl (tc.1, 24, .inl (c_saved_codes 3))), ((hR_saved 4), .inr (6, [.ref (hC_saved 4), .int (c_saved_count 4)])), ((hC_saved 4), .inl (tc.1, 24, .inl (c_saved_codes 4))), ((hR_saved 5), .inr (6, [.ref (hC_saved 5), .int (c_saved_count 5)])), ((hC_saved 5), .inl (tc.1, 24, .inl (c_saved_codes 5))), ((hR_saved 6), .inr (6, [.ref (hC_saved 6), .int (c_saved_count 6)])), ((hC_saved 6), .inl (tc.1, 24, .inl (c_saved_codes 6))), ((hR_saved 7), .inr (6, [.ref (hC_saved 7), .int (c_saved_count 7)])), ((hC_saved 7), .inl (tc.1, 24, .inl (c_saved_codes 7))), ((hR_saved 8), .inr (6, [.ref (hC_saved 8), .int (c_saved_count 8)])), ((hC_saved 8), .inl (tc.1, 24, .inl (c_saved_codes 8))), ((hR_saved 9), .inr (6, [.ref (hC_saved 9), .int (c_saved_count 9)])), ((hC_saved 9), .inl (tc.1, 24, .inl (c_saved_codes 9))), (h_p1, .inr (6, [.ref h_p1_codes, .int o31])), (h_p1_codes, .inl (tc.1, 24, .inl o30))]) rfl ?_
    refine j_aload C d2_restore_29 0 rfl ?_
    refine j_dup C d2_restore_30 rfl ?_
    refine j_get C d2_restore_31 fl2_22 0 rfl rfl ?_
    refine j_const C d2_restore_34 ?_
    refine j_isub C d2_restore_35 ?_
    refine j_leti (fun x33 => ?_)
    refine j_putq C d2_restore_36 fq2_22 0 rfl rfl rfl (Nat.le_of_ble_eq_true rfl) (ws' := [(h_, .inr (2, [.ref h_saved, .int x32, .int x33])), (h_saved, .inl (tc.2.2, 10, .inr (.inr (.inr (.inr fun j => some (hR_saved j)))))), ((hR_saved 0), .inr (6, [.ref (hC_saved 0), .int (c_saved_count 0)])), ((hC_saved 0), .inl (tc.1, 24, .inl (c_saved_codes 0))), ((hR_saved 1), .inr (6, [.ref (hC_saved 1), .int (c_saved_count 1)])), ((hC_saved 1), .inl (tc.1, 24, .inl (c_saved_codes 1))), ((hR_saved 2), .inr (6, [.ref (hC_saved 2), .int (c_saved_count 2)])), ((hC_saved 2), .inl (tc.1, 24, .inl (c_saved_codes 2))), ((hR_saved 3), .inr (6, [.ref (hC_saved 3), .int (c_saved_count 3)])), ((hC_saved 3), .inl (tc.1, 24, .inl (c_saved_codes 3))), ((hR_saved 4), .inr (6, [.ref (hC_saved 4), .int (c_saved_count 4)])), ((hC_saved 4), .inl (tc.1, 24, .inl (c_saved_codes 4))), ((hR_saved 5), .inr (6, [.ref (hC_saved 5), .int (c_saved_count 5)])), ((hC_saved 5), .inl (tc.1, 24, .inl (c_saved_codes 5))), ((hR_saved 6), .inr (6, [.ref (hC_saved 6), .int (c_saved_count 6)])), ((hC_saved 6), .inl (tc.1, 24, .inl (c_saved_codes 6))), ((hR_saved 7), .inr (6, [.ref (hC_saved 7), .int (c_saved_count 7)])), ((hC_saved 7), .inl (tc.1, 24, .inl (c_saved_codes 7))), ((hR_saved 8), .inr (6, [.ref (hC_saved 8), .int (c_saved_count 8)])), ((hC_saved 8), .inl (tc.1, 24, .inl (c_saved_codes 8))), ((hR_saved 9), .inr (6, [.ref (hC_saved 9), .int (c_saved_count 9)])), ((hC_saved 9), .inl (tc.1, 24, .inl (c_saved_codes 9))), (h_p1, .inr (6, [.ref h_p1_codes, .int o31])), (h_p1_codes, .inl (tc.1, 24, .inl o30))]) rfl ?_
    exact j_vret C d2_restore_39 rfl
  · refine j_callVV2 (As := [.ref (hR_saved 7)]) C d2_restore_10 mv2_31 (kX6_become _ _ tc h_p1 h_p1_codes (hR_saved 7) (hC_saved 7) c_p1_codes c_p1_count (c_saved_codes 7) (c_saved_count 7)) ⟨rfl, rfl, Nat.le_of_ble_eq_true rfl, Nat.le_of_ble_eq_true rfl⟩ rfl 22 rfl [22, 23, 16, 17] rfl rfl rfl (Nat.le_of_ble_eq_true rfl) (fun o34 o35 => [(h_, .inr (2, [.ref h_saved, .int c_newest, .int c_size])), (h_saved, .inl (tc.2.2, 10, .inr (.inr (.inr (.inr fun j => some (hR_saved j)))))), ((hR_saved 0), .inr (6, [.ref (hC_saved 0), .int (c_saved_count 0)])), ((hC_saved 0), .inl (tc.1, 24, .inl (c_saved_codes 0))), ((hR_saved 1), .inr (6, [.ref (hC_saved 1), .int (c_saved_count 1)])), ((hC_saved 1), .inl (tc.1, 24, .inl (c_saved_codes 1))), ((hR_saved 2), .inr (6, [.ref (hC_saved 2), .int (c_saved_count 2)])), ((hC_saved 2), .inl (tc.1, 24, .inl (c_saved_codes 2))), ((hR_saved 3), .inr (6, [.ref (hC_saved 3), .int (c_saved_count 3)])), ((hC_saved 3), .inl (tc.1, 24, .inl (c_saved_codes 3))), ((hR_saved 4), .inr (6, [.ref (hC_saved 4), .int (c_saved_count 4)])), ((hC_saved 4), .inl (tc.1, 24, .inl (c_saved_codes 4))), ((hR_saved 5), .inr (6, [.ref (hC_saved 5), .int (c_saved_count 5)])), ((hC_saved 5), .inl (tc.1, 24, .inl (c_saved_codes 5))), ((hR_saved 6), .inr (6, [.ref (hC_saved 6), .int (c_saved_count 6)])), ((hC_saved 6), .inl (tc.1, 24, .inl (c_saved_codes 6))), ((hR_saved 7), .inr (6, [.ref (hC_saved 7), .int (c_saved_count 7)])), ((hC_saved 7), .inl (tc.1, 24, .inl (c_saved_codes 7))), ((hR_saved 8), .inr (6, [.ref (hC_saved 8), .int (c_saved_count 8)])), ((hC_saved 8), .inl (tc.1, 24, .inl (c_saved_codes 8))), ((hR_saved 9), .inr (6, [.ref (hC_saved 9), .int (c_saved_count 9)])), ((hC_saved 9), .inl (tc.1, 24, .inl (c_saved_codes 9))), (h_p1, .inr (6, [.ref h_p1_codes, .int o35])), (h_p1_codes, .inl (tc.1, 24, .inl o34))]) [(false, 0), (false, 1), (false, 2), (false, 3), (false, 4), (false, 5), (false, 6), (false, 7), (false, 8), (false, 9), (false, 10), (false, 11), (false, 12), (false, 13), (false, 14), (false, 15), (true, 2), (true, 3), (false, 18), (false, 19), (false, 20), (false, 21), (true, 0), (true, 1)] (fun _ => rfl) (by decide +kernel) (fun o34 o35 => ?_)
    refine j_aload C d2_restore_13 0 rfl ?_
    refine j_aload C d2_restore_14 0 rfl ?_
    refine j_get C d2_restore_15 fl2_18 0 rfl rfl ?_
    refine j_const C d2_restore_18 ?_
    refine j_iadd C d2_restore_20 ?_
    refine j_const C d2_restore_21 ?_
    refine j_isub C d2_restore_22 ?_
    refine j_const C d2_restore_23 ?_
    refine j_irem C d2_restore_25 (by decide) ?_
    refine j_leti (fun x36 => ?_)
    refine j_putq C d2_restore_26 fq2_18 0 rfl rfl rfl (Nat.le_of_ble_eq_true rfl) (ws' := [(h_, .inr (2, [.ref h_saved, .int x36, .int c_size])), (h_saved, .inl (tc.2.2, 10, .inr (.inr (.inr (.inr fun j => some (hR_saved j)))))), ((hR_saved 0), .inr (6, [.ref (hC_saved 0), .int (c_saved_count 0)])), ((hC_saved 0), .inl (tc.1, 24, .inl (c_saved_codes 0))), ((hR_saved 1), .inr (6, [.ref (hC_saved 1), .int (c_saved_count 1)])), ((hC_saved 1), .inl (tc.1, 24, .inl (c_saved_codes 1))), ((hR_saved 2), .inr (6, [.ref (hC_saved 2), .int (c_saved_count 2)])), ((hC_saved 2), .inl (tc.1, 24, .inl (c_saved_codes 2))), ((hR_saved 3), .inr (6, [.ref (hC_saved 3), .int (c_saved_count 3)])), ((hC_saved 3), .inl (tc.1, 24, .inl (c_saved_codes 3))), ((hR_saved 4), .inr (6, [.ref (hC_saved 4), .int (c_saved_count 4)])), ((hC_saved 4), .inl (tc.1, 24, .inl (c_saved_codes 4))), ((hR_saved 5), .inr (6, [.ref (hC_saved 5), .int (c_saved_count 5)])), ((hC_saved 5), .inl (tc.1, 24, .inl (c_saved_codes 5))), ((hR_saved 6), .inr (6, [.ref (hC_saved 6), .int (c_saved_count 6)])), ((hC_saved 6), .inl (tc.1, 24, .inl (c_saved_codes 6))), ((hR_saved 7), .inr (6, [.ref (hC_saved 7), .int (c_saved_count 7)])), ((hC_saved 7), .inl (tc.1, 24, .inl (c_saved_codes 7))), ((hR_saved 8), .inr (6, [.ref (hC_saved 8), .int (c_saved_count 8)])), ((hC_saved 8), .inl (tc.1, 24, .inl (c_saved_codes 8))), ((hR_saved 9), .inr (6, [.ref (hC_saved 9), .int (c_saved_count 9)])), ((hC_saved 9), .inl (tc.1, 24, .inl (c_saved_codes 9))), (h_p1, .inr (6, [.ref h_p1_codes, .int o35])), (h_p1_codes, .inl (tc.1, 24, .inl o34))]) rfl ?_
    refine j_aload C d2_restore_29 0 rfl ?_
    refine j_dup C d2_restore_30 rfl ?_
    refine j_get C d2_restore_31 fl2_22 0 rfl rfl ?_
    refine j_const C d2_restore_34 ?_
    refine j_isub C d2_restore_35 ?_
    refine j_leti (fun x37 => ?_)
    refine j_putq C d2_restore_36 fq2_22 0 rfl rfl rfl (Nat.le_of_ble_eq_true rfl) (ws' := [(h_, .inr (2, [.ref h_saved, .int x36, .int x37])), (h_saved, .inl (tc.2.2, 10, .inr (.inr (.inr (.inr fun j => some (hR_saved j)))))), ((hR_saved 0), .inr (6, [.ref (hC_saved 0), .int (c_saved_count 0)])), ((hC_saved 0), .inl (tc.1, 24, .inl (c_saved_codes 0))), ((hR_saved 1), .inr (6, [.ref (hC_saved 1), .int (c_saved_count 1)])), ((hC_saved 1), .inl (tc.1, 24, .inl (c_saved_codes 1))), ((hR_saved 2), .inr (6, [.ref (hC_saved 2), .int (c_saved_count 2)])), ((hC_saved 2), .inl (tc.1, 24, .inl (c_saved_codes 2))), ((hR_saved 3), .inr (6, [.ref (hC_saved 3), .int (c_saved_count 3)])), ((hC_saved 3), .inl (tc.1, 24, .inl (c_saved_codes 3))), ((hR_saved 4), .inr (6, [.ref (hC_saved 4), .int (c_saved_count 4)])), ((hC_saved 4), .inl (tc.1, 24, .inl (c_saved_codes 4))), ((hR_saved 5), .inr (6, [.ref (hC_saved 5), .int (c_saved_count 5)])), ((hC_saved 5), .inl (tc.1, 24, .inl (c_saved_codes 5))), ((hR_saved 6), .inr (6, [.ref (hC_saved 6), .int (c_saved_count 6)])), ((hC_saved 6), .inl (tc.1, 24, .inl (c_saved_codes 6))), ((hR_saved 7), .inr (6, [.ref (hC_saved 7), .int (c_saved_count 7)])), ((hC_saved 7), .inl (tc.1, 24, .inl (c_saved_codes 7))), ((hR_saved 8), .inr (6, [.ref (hC_saved 8), .int (c_saved_count 8)])), ((hC_saved 8), .inl (tc.1, 24, .inl (c_saved_codes 8))), ((hR_saved 9), .inr (6, [.ref (hC_saved 9), .int (c_saved_count 9)])), ((hC_saved 9), .inl (tc.1, 24, .inl (c_saved_codes 9))), (h_p1, .inr (6, [.ref h_p1_codes, .int o35])), (h_p1_codes, .inl (tc.1, 24, .inl o34))]) rfl ?_
    exact j_vret C d2_restore_39 rfl
  · refine j_callVV2 (As := [.ref (hR_saved 8)]) C d2_restore_10 mv2_31 (kX6_become _ _ tc h_p1 h_p1_codes (hR_saved 8) (hC_saved 8) c_p1_codes c_p1_count (c_saved_codes 8) (c_saved_count 8)) ⟨rfl, rfl, Nat.le_of_ble_eq_true rfl, Nat.le_of_ble_eq_true rfl⟩ rfl 22 rfl [22, 23, 18, 19] rfl rfl rfl (Nat.le_of_ble_eq_true rfl) (fun o38 o39 => [(h_, .inr (2, [.ref h_saved, .int c_newest, .int c_size])), (h_saved, .inl (tc.2.2, 10, .inr (.inr (.inr (.inr fun j => some (hR_saved j)))))), ((hR_saved 0), .inr (6, [.ref (hC_saved 0), .int (c_saved_count 0)])), ((hC_saved 0), .inl (tc.1, 24, .inl (c_saved_codes 0))), ((hR_saved 1), .inr (6, [.ref (hC_saved 1), .int (c_saved_count 1)])), ((hC_saved 1), .inl (tc.1, 24, .inl (c_saved_codes 1))), ((hR_saved 2), .inr (6, [.ref (hC_saved 2), .int (c_saved_count 2)])), ((hC_saved 2), .inl (tc.1, 24, .inl (c_saved_codes 2))), ((hR_saved 3), .inr (6, [.ref (hC_saved 3), .int (c_saved_count 3)])), ((hC_saved 3), .inl (tc.1, 24, .inl (c_saved_codes 3))), ((hR_saved 4), .inr (6, [.ref (hC_saved 4), .int (c_saved_count 4)])), ((hC_saved 4), .inl (tc.1, 24, .inl (c_saved_codes 4))), ((hR_saved 5), .inr (6, [.ref (hC_saved 5), .int (c_saved_count 5)])), ((hC_saved 5), .inl (tc.1, 24, .inl (c_saved_codes 5))), ((hR_saved 6), .inr (6, [.ref (hC_saved 6), .int (c_saved_count 6)])), ((hC_saved 6), .inl (tc.1, 24, .inl (c_saved_codes 6))), ((hR_saved 7), .inr (6, [.ref (hC_saved 7), .int (c_saved_count 7)])), ((hC_saved 7), .inl (tc.1, 24, .inl (c_saved_codes 7))), ((hR_saved 8), .inr (6, [.ref (hC_saved 8), .int (c_saved_count 8)])), ((hC_saved 8), .inl (tc.1, 24, .inl (c_saved_codes 8))), ((hR_saved 9), .inr (6, [.ref (hC_saved 9), .int (c_saved_count 9)])), ((hC_saved 9), .inl (tc.1, 24, .inl (c_saved_codes 9))), (h_p1, .inr (6, [.ref h_p1_codes, .int o39])), (h_p1_codes, .inl (tc.1, 24, .inl o38))]) [(false, 0), (false, 1), (false, 2), (false, 3), (false, 4), (false, 5), (false, 6), (false, 7), (false, 8), (false, 9), (false, 10), (false, 11), (false, 12), (false, 13), (false, 14), (false, 15), (false, 16), (false, 17), (true, 2), (true, 3), (false, 20), (false, 21), (true, 0), (true, 1)] (fun _ => rfl) (by decide +kernel) (fun o38 o39 => ?_)
    refine j_aload C d2_restore_13 0 rfl ?_
    refine j_aload C d2_restore_14 0 rfl ?_
    refine j_get C d2_restore_15 fl2_18 0 rfl rfl ?_
    refine j_const C d2_restore_18 ?_
    refine j_iadd C d2_restore_20 ?_
    refine j_const C d2_restore_21 ?_
    refine j_isub C d2_restore_22 ?_
    refine j_const C d2_restore_23 ?_
    refine j_irem C d2_restore_25 (by decide) ?_
    refine j_leti (fun x40 => ?_)
    refine j_putq C d2_restore_26 fq2_18 0 rfl rfl rfl (Nat.le_of_ble_eq_true rfl) (ws' := [(h_, .inr (2, [.ref h_saved, .int x40, .int c_size])), (h_saved, .inl (tc.2.2, 10, .inr (.inr (.inr (.inr fun j => some (hR_saved j)))))), ((hR_saved 0), .inr (6, [.ref (hC_saved 0), .int (c_saved_count 0)])), ((hC_saved 0), .inl (tc.1, 24, .inl (c_saved_codes 0))), ((hR_saved 1), .inr (6, [.ref (hC_saved 1), .int (c_saved_count 1)])), ((hC_saved 1), .inl (tc.1, 24, .inl (c_saved_codes 1))), ((hR_saved 2), .inr (6, [.ref (hC_saved 2), .int (c_saved_count 2)])), ((hC_saved 2), .inl (tc.1, 24, .inl (c_saved_codes 2))), ((hR_saved 3), .inr (6, [.ref (hC_saved 3), .int (c_saved_count 3)])), ((hC_saved 3), .inl (tc.1, 24, .inl (c_saved_codes 3))), ((hR_saved 4), .inr (6, [.ref (hC_saved 4), .int (c_saved_count 4)])), ((hC_saved 4), .inl (tc.1, 24, .inl (c_saved_codes 4))), ((hR_saved 5), .inr (6, [.ref (hC_saved 5), .int (c_saved_count 5)])), ((hC_saved 5), .inl (tc.1, 24, .inl (c_saved_codes 5))), ((hR_saved 6), .inr (6, [.ref (hC_saved 6), .int (c_saved_count 6)])), ((hC_saved 6), .inl (tc.1, 24, .inl (c_saved_codes 6))), ((hR_saved 7), .inr (6, [.ref (hC_saved 7), .int (c_saved_count 7)])), ((hC_saved 7), .inl (tc.1, 24, .inl (c_saved_codes 7))), ((hR_saved 8), .inr (6, [.ref (hC_saved 8), .int (c_saved_count 8)])), ((hC_saved 8), .inl (tc.1, 24, .inl (c_saved_codes 8))), ((hR_saved 9), .inr (6, [.ref (hC_saved 9), .int (c_saved_count 9)])), ((hC_saved 9), .inl (tc.1, 24, .inl (c_saved_codes 9))), (h_p1, .inr (6, [.ref h_p1_codes, .int o39])), (h_p1_codes, .inl (tc.1, 24, .inl o38))]) rfl ?_
    refine j_aload C d2_restore_29 0 rfl ?_
    refine j_dup C d2_restore_30 rfl ?_
    refine j_get C d2_restore_31 fl2_22 0 rfl rfl ?_
    refine j_const C d2_restore_34 ?_
    refine j_isub C d2_restore_35 ?_
    refine j_leti (fun x41 => ?_)
    refine j_putq C d2_restore_36 fq2_22 0 rfl rfl rfl (Nat.le_of_ble_eq_true rfl) (ws' := [(h_, .inr (2, [.ref h_saved, .int x40, .int x41])), (h_saved, .inl (tc.2.2, 10, .inr (.inr (.inr (.inr fun j => some (hR_saved j)))))), ((hR_saved 0), .inr (6, [.ref (hC_saved 0), .int (c_saved_count 0)])), ((hC_saved 0), .inl (tc.1, 24, .inl (c_saved_codes 0))), ((hR_saved 1), .inr (6, [.ref (hC_saved 1), .int (c_saved_count 1)])), ((hC_saved 1), .inl (tc.1, 24, .inl (c_saved_codes 1))), ((hR_saved 2), .inr (6, [.ref (hC_saved 2), .int (c_saved_count 2)])), ((hC_saved 2), .inl (tc.1, 24, .inl (c_saved_codes 2))), ((hR_saved 3), .inr (6, [.ref (hC_saved 3), .int (c_saved_count 3)])), ((hC_saved 3), .inl (tc.1, 24, .inl (c_saved_codes 3))), ((hR_saved 4), .inr (6, [.ref (hC_saved 4), .int (c_saved_count 4)])), ((hC_saved 4), .inl (tc.1, 24, .inl (c_saved_codes 4))), ((hR_saved 5), .inr (6, [.ref (hC_saved 5), .int (c_saved_count 5)])), ((hC_saved 5), .inl (tc.1, 24, .inl (c_saved_codes 5))), ((hR_saved 6), .inr (6, [.ref (hC_saved 6), .int (c_saved_count 6)])), ((hC_saved 6), .inl (tc.1, 24, .inl (c_saved_codes 6))), ((hR_saved 7), .inr (6, [.ref (hC_saved 7), .int (c_saved_count 7)])), ((hC_saved 7), .inl (tc.1, 24, .inl (c_saved_codes 7))), ((hR_saved 8), .inr (6, [.ref (hC_saved 8), .int (c_saved_count 8)])), ((hC_saved 8), .inl (tc.1, 24, .inl (c_saved_codes 8))), ((hR_saved 9), .inr (6, [.ref (hC_saved 9), .int (c_saved_count 9)])), ((hC_saved 9), .inl (tc.1, 24, .inl (c_saved_codes 9))), (h_p1, .inr (6, [.ref h_p1_codes, .int o39])), (h_p1_codes, .inl (tc.1, 24, .inl o38))]) rfl ?_
    exact j_vret C d2_restore_39 rfl
  · refine j_callVV2 (As := [.ref (hR_saved 9)]) C d2_restore_10 mv2_31 (kX6_become _ _ tc h_p1 h_p1_codes (hR_saved 9) (hC_saved 9) c_p1_codes c_p1_count (c_saved_codes 9) (c_saved_count 9)) ⟨rfl, rfl, Nat.le_of_ble_eq_true rfl, Nat.le_of_ble_eq_true rfl⟩ rfl 22 rfl [22, 23, 20, 21] rfl rfl rfl (Nat.le_of_ble_eq_true rfl) (fun o42 o43 => [(h_, .inr (2, [.ref h_saved, .int c_newest, .int c_size])), (h_saved, .inl (tc.2.2, 10, .inr (.inr (.inr (.inr fun j => some (hR_saved j)))))), ((hR_saved 0), .inr (6, [.ref (hC_saved 0), .int (c_saved_count 0)])), ((hC_saved 0), .inl (tc.1, 24, .inl (c_saved_codes 0))), ((hR_saved 1), .inr (6, [.ref (hC_saved 1), .int (c_saved_count 1)])), ((hC_saved 1), .inl (tc.1, 24, .inl (c_saved_codes 1))), ((hR_saved 2), .inr (6, [.ref (hC_saved 2), .int (c_saved_count 2)])), ((hC_saved 2), .inl (tc.1, 24, .inl (c_saved_codes 2))), ((hR_saved 3), .inr (6, [.ref (hC_saved 3), .int (c_saved_count 3)])), ((hC_saved 3), .inl (tc.1, 24, .inl (c_saved_codes 3))), ((hR_saved 4), .inr (6, [.ref (hC_saved 4), .int (c_saved_count 4)])), ((hC_saved 4), .inl (tc.1, 24, .inl (c_saved_codes 4))), ((hR_saved 5), .inr (6, [.ref (hC_saved 5), .int (c_saved_count 5)])), ((hC_saved 5), .inl (tc.1, 24, .inl (c_saved_codes 5))), ((hR_saved 6), .inr (6, [.ref (hC_saved 6), .int (c_saved_count 6)])), ((hC_saved 6), .inl (tc.1, 24, .inl (c_saved_codes 6))), ((hR_saved 7), .inr (6, [.ref (hC_saved 7), .int (c_saved_count 7)])), ((hC_saved 7), .inl (tc.1, 24, .inl (c_saved_codes 7))), ((hR_saved 8), .inr (6, [.ref (hC_saved 8), .int (c_saved_count 8)])), ((hC_saved 8), .inl (tc.1, 24, .inl (c_saved_codes 8))), ((hR_saved 9), .inr (6, [.ref (hC_saved 9), .int (c_saved_count 9)])), ((hC_saved 9), .inl (tc.1, 24, .inl (c_saved_codes 9))), (h_p1, .inr (6, [.ref h_p1_codes, .int o43])), (h_p1_codes, .inl (tc.1, 24, .inl o42))]) [(false, 0), (false, 1), (false, 2), (false, 3), (false, 4), (false, 5), (false, 6), (false, 7), (false, 8), (false, 9), (false, 10), (false, 11), (false, 12), (false, 13), (false, 14), (false, 15), (false, 16), (false, 17), (false, 18), (false, 19), (true, 2), (true, 3), (true, 0), (true, 1)] (fun _ => rfl) (by decide +kernel) (fun o42 o43 => ?_)
    refine j_aload C d2_restore_13 0 rfl ?_
    refine j_aload C d2_restore_14 0 rfl ?_
    refine j_get C d2_restore_15 fl2_18 0 rfl rfl ?_
    refine j_const C d2_restore_18 ?_
    refine j_iadd C d2_restore_20 ?_
    refine j_const C d2_restore_21 ?_
    refine j_isub C d2_restore_22 ?_
    refine j_const C d2_restore_23 ?_
    refine j_irem C d2_restore_25 (by decide) ?_
    refine j_leti (fun x44 => ?_)
    refine j_putq C d2_restore_26 fq2_18 0 rfl rfl rfl (Nat.le_of_ble_eq_true rfl) (ws' := [(h_, .inr (2, [.ref h_saved, .int x44, .int c_size])), (h_saved, .inl (tc.2.2, 10, .inr (.inr (.inr (.inr fun j => some (hR_saved j)))))), ((hR_saved 0), .inr (6, [.ref (hC_saved 0), .int (c_saved_count 0)])), ((hC_saved 0), .inl (tc.1, 24, .inl (c_saved_codes 0))), ((hR_saved 1), .inr (6, [.ref (hC_saved 1), .int (c_saved_count 1)])), ((hC_saved 1), .inl (tc.1, 24, .inl (c_saved_codes 1))), ((hR_saved 2), .inr (6, [.ref (hC_saved 2), .int (c_saved_count 2)])), ((hC_saved 2), .inl (tc.1, 24, .inl (c_saved_codes 2))), ((hR_saved 3), .inr (6, [.ref (hC_saved 3), .int (c_saved_count 3)])), ((hC_saved 3), .inl (tc.1, 24, .inl (c_saved_codes 3))), ((hR_saved 4), .inr (6, [.ref (hC_saved 4), .int (c_saved_count 4)])), ((hC_saved 4), .inl (tc.1, 24, .inl (c_saved_codes 4))), ((hR_saved 5), .inr (6, [.ref (hC_saved 5), .int (c_saved_count 5)])), ((hC_saved 5), .inl (tc.1, 24, .inl (c_saved_codes 5))), ((hR_saved 6), .inr (6, [.ref (hC_saved 6), .int (c_saved_count 6)])), ((hC_saved 6), .inl (tc.1, 24, .inl (c_saved_codes 6))), ((hR_saved 7), .inr (6, [.ref (hC_saved 7), .int (c_saved_count 7)])), ((hC_saved 7), .inl (tc.1, 24, .inl (c_saved_codes 7))), ((hR_saved 8), .inr (6, [.ref (hC_saved 8), .int (c_saved_count 8)])), ((hC_saved 8), .inl (tc.1, 24, .inl (c_saved_codes 8))), ((hR_saved 9), .inr (6, [.ref (hC_saved 9), .int (c_saved_count 9)])), ((hC_saved 9), .inl (tc.1, 24, .inl (c_saved_codes 9))), (h_p1, .inr (6, [.ref h_p1_codes, .int o43])), (h_p1_codes, .inl (tc.1, 24, .inl o42))]) rfl ?_
    refine j_aload C d2_restore_29 0 rfl ?_
    refine j_dup C d2_restore_30 rfl ?_
    refine j_get C d2_restore_31 fl2_22 0 rfl rfl ?_
    refine j_const C d2_restore_34 ?_
    refine j_isub C d2_restore_35 ?_
    refine j_leti (fun x45 => ?_)
    refine j_putq C d2_restore_36 fq2_22 0 rfl rfl rfl (Nat.le_of_ble_eq_true rfl) (ws' := [(h_, .inr (2, [.ref h_saved, .int x44, .int x45])), (h_saved, .inl (tc.2.2, 10, .inr (.inr (.inr (.inr fun j => some (hR_saved j)))))), ((hR_saved 0), .inr (6, [.ref (hC_saved 0), .int (c_saved_count 0)])), ((hC_saved 0), .inl (tc.1, 24, .inl (c_saved_codes 0))), ((hR_saved 1), .inr (6, [.ref (hC_saved 1), .int (c_saved_count 1)])), ((hC_saved 1), .inl (tc.1, 24, .inl (c_saved_codes 1))), ((hR_saved 2), .inr (6, [.ref (hC_saved 2), .int (c_saved_count 2)])), ((hC_saved 2), .inl (tc.1, 24, .inl (c_saved_codes 2))), ((hR_saved 3), .inr (6, [.ref (hC_saved 3), .int (c_saved_count 3)])), ((hC_saved 3), .inl (tc.1, 24, .inl (c_saved_codes 3))), ((hR_saved 4), .inr (6, [.ref (hC_saved 4), .int (c_saved_count 4)])), ((hC_saved 4), .inl (tc.1, 24, .inl (c_saved_codes 4))), ((hR_saved 5), .inr (6, [.ref (hC_saved 5), .int (c_saved_count 5)])), ((hC_saved 5), .inl (tc.1, 24, .inl (c_saved_codes 5))), ((hR_saved 6), .inr (6, [.ref (hC_saved 6), .int (c_saved_count 6)])), ((hC_saved 6), .inl (tc.1, 24, .inl (c_saved_codes 6))), ((hR_saved 7), .inr (6, [.ref (hC_saved 7), .int (c_saved_count 7)])), ((hC_saved 7), .inl (tc.1, 24, .inl (c_saved_codes 7))), ((hR_saved 8), .inr (6, [.ref (hC_saved 8), .int (c_saved_count 8)])), ((hC_saved 8), .inl (tc.1, 24, .inl (c_saved_codes 8))), ((hR_saved 9), .inr (6, [.ref (hC_saved 9), .int (c_saved_count 9)])), ((hC_saved 9), .inl (tc.1, 24, .inl (c_saved_codes 9))), (h_p1, .inr (6, [.ref h_p1_codes, .int o43])), (h_p1_codes, .inl (tc.1, 24, .inl o42))]) rfl ?_
    exact j_vret C d2_restore_39 rfl

theorem d3_terminalsIn_0 : jdi cX3_terminalsIn 0 0 1 := Or.inl ⟨0, by decide +kernel⟩
theorem d3_terminalsIn_1 : jds cX3_terminalsIn 1 1 2 := Or.inl ⟨1, by decide +kernel⟩
theorem d3_terminalsIn_2 : jdk cX3_terminalsIn 2 0 3 := Or.inl ⟨0, by decide +kernel⟩
theorem d3_terminalsIn_3 : jds cX3_terminalsIn 3 2 4 := Or.inl ⟨2, by decide +kernel⟩
theorem d3_terminalsIn_4 : jdi cX3_terminalsIn 4 1 5 := Or.inl ⟨1, by decide +kernel⟩
theorem d3_terminalsIn_5 : jdb cX3_terminalsIn 5 (.ifCond .le 38) 38 43 8 := by decide +kernel
theorem d3_terminalsIn_8 : jdi cX3_terminalsIn 8 2 9 := Or.inl ⟨2, by decide +kernel⟩
theorem d3_terminalsIn_9 : jdk cX3_terminalsIn 9 10 11 := Or.inr (Or.inl ⟨10, by decide +kernel⟩)
theorem d3_terminalsIn_11 : jdb cX3_terminalsIn 11 (.if_icmp .ge 32) 32 43 14 := by decide +kernel
theorem d3_terminalsIn_14 : jdi cX3_terminalsIn 14 1 15 := Or.inl ⟨1, by decide +kernel⟩
theorem d3_terminalsIn_15 : jdk cX3_terminalsIn 15 10 17 := Or.inr (Or.inl ⟨10, by decide +kernel⟩)
theorem d3_terminalsIn_17 : jd cX3_terminalsIn 17 (.irem) 1 18 := by decide +kernel
theorem d3_terminalsIn_18 : jds cX3_terminalsIn 18 3 19 := Or.inl ⟨3, by decide +kernel⟩
theorem d3_terminalsIn_19 : jdi cX3_terminalsIn 19 3 20 := Or.inl ⟨3, by decide +kernel⟩
theorem d3_terminalsIn_20 : jdk cX3_terminalsIn 20 1 21 := Or.inl ⟨1, by decide +kernel⟩
theorem d3_terminalsIn_21 : jdb cX3_terminalsIn 21 (.if_icmp .lt 9) 9 30 24 := by decide +kernel
theorem d3_terminalsIn_24 : jdi cX3_terminalsIn 24 3 25 := Or.inl ⟨3, by decide +kernel⟩
theorem d3_terminalsIn_25 : jdk cX3_terminalsIn 25 8 27 := Or.inr (Or.inl ⟨8, by decide +kernel⟩)
theorem d3_terminalsIn_27 : jdb cX3_terminalsIn 27 (.if_icmp .le 5) 5 32 30 := by decide +kernel
theorem d3_terminalsIn_30 : jdk cX3_terminalsIn 30 0 31 := Or.inl ⟨0, by decide +kernel⟩
theorem d3_terminalsIn_31 : decode cX3_terminalsIn 31 = .ok (.ireturn, 1) := by decide +kernel
theorem d3_terminalsIn_32 : jdi cX3_terminalsIn 32 1 33 := Or.inl ⟨1, by decide +kernel⟩
theorem d3_terminalsIn_33 : jdk cX3_terminalsIn 33 10 35 := Or.inr (Or.inl ⟨10, by decide +kernel⟩)
theorem d3_terminalsIn_35 : jd cX3_terminalsIn 35 (.idiv) 1 36 := by decide +kernel
theorem d3_terminalsIn_36 : jds cX3_terminalsIn 36 1 37 := Or.inl ⟨1, by decide +kernel⟩
theorem d3_terminalsIn_37 : jd cX3_terminalsIn 37 (.iinc 2 1) 3 40 := by decide +kernel
theorem d3_terminalsIn_40 : jdb cX3_terminalsIn 40 (.goto (-36)) (-36) 4 43 := by decide +kernel
theorem d3_terminalsIn_43 : jdi cX3_terminalsIn 43 2 44 := Or.inl ⟨2, by decide +kernel⟩
theorem d3_terminalsIn_44 : decode cX3_terminalsIn 44 = .ok (.ireturn, 1) := by decide +kernel
set_option maxHeartbeats 4000000 in
set_option maxRecDepth 100000 in
theorem wX3_terminalsIn_4 {X : jC} {tc : jTC} (C : jx X cX3_terminalsIn 4 RX3 (some .int) tc ({ frames := 0, cells := 0, slots := 0, locals := 0 } : Room)) (k2 : (Int32 → Option (Int32))) (k4 : (Unit → Option (Int32))) (hk2 : ∀ (v11 : Int32), jo X 4 (0, 0) (jQI0 X []) (k2 v11) [] 43 [(2, .int v11)] []) (hk4 : ∀ (v12 : Unit), jo X 4 (0, 0) (jQI0 X []) (k4 v12) [] 30 [] []) (rc7 : Int32 → Int32 → Option (Int32)) (hrc7 : ∀ (v5 : Int32) (v6 : Int32), jo X 4 (0, 0) (jQI0 X []) (rc7 v5 v6) [] 4 [(1, .int v5), (2, .int v6)] []) (v5 : Int32) (v6 : Int32) : jo X 4 (0, 0) (jQI0 X []) (bX3_terminalsIn_4 k2 k4 rc7 v5 v6) [] 4 [(1, .int v5), (2, .int v6)] [] := by
  unfold bX3_terminalsIn_4
  refine j_iload C d3_terminalsIn_4 0 rfl ?_
  refine j_if_le C d3_terminalsIn_5 ?_ ?_
  · exact j_sub [1] rfl (hk2 _)
  · refine j_iload C d3_terminalsIn_8 1 rfl ?_
    refine j_const C d3_terminalsIn_9 ?_
    refine j_icmp_ge C d3_terminalsIn_11 ?_ ?_
    · exact j_sub [1] rfl (hk2 _)
    · refine j_iload C d3_terminalsIn_14 0 rfl ?_
      refine j_const C d3_terminalsIn_15 ?_
      refine j_irem C d3_terminalsIn_17 (by decide) ?_
      refine j_leti (fun x8 => ?_)
      refine j_istore C d3_terminalsIn_18 (by decide) (lv' := [(3, .int x8), (1, .int v5), (2, .int v6)]) rfl ?_
      refine j_iload C d3_terminalsIn_19 0 rfl ?_
      refine j_const C d3_terminalsIn_20 ?_
      refine j_icmp_lt C d3_terminalsIn_21 ?_ ?_
      · exact j_sub [] rfl (hk4 _)
      · refine j_iload C d3_terminalsIn_24 0 rfl ?_
        refine j_const C d3_terminalsIn_25 ?_
        refine j_icmp_le C d3_terminalsIn_27 ?_ ?_
        · refine j_iload C d3_terminalsIn_32 1 rfl ?_
          refine j_const C d3_terminalsIn_33 ?_
          refine j_idiv C d3_terminalsIn_35 (by decide) ?_
          refine j_leti (fun x9 => ?_)
          refine j_istore C d3_terminalsIn_36 (by decide) (lv' := [(1, .int x9), (3, .int x8), (2, .int v6)]) rfl ?_
          refine j_iincN C (fun x10 => [(2, .int x10), (1, .int x9), (3, .int x8)]) d3_terminalsIn_37 2 rfl (by decide +kernel) (by decide) (fun _ => rfl) (fun x10 => ?_)
          refine j_goto C d3_terminalsIn_40 ?_
          exact j_sub [1, 0] rfl (hrc7 _ _)
        · exact j_sub [] rfl (hk4 _)

set_option maxHeartbeats 4000000 in
set_option maxRecDepth 100000 in
theorem kX3_terminalsIn (l : Launch) (D : va_G) (tc : jTC) (N : Nat) (p0 : Int32) : ctI0 l D tc yX3_terminalsIn (Cond.code yX3_terminalsIn cX3_terminalsIn 4 (some .int) :: jtb) ({ frames := 0, cells := 0, slots := 0, locals := 0 } : Room) [.int p0] [] (fX3_terminalsIn N p0) := by
  refine ctI0_of (lv0 := [(0, .int p0)]) (by decide +kernel) (Nat.le_of_ble_eq_true rfl) rfl (fun X C => ?_)
  unfold fX3_terminalsIn
  refine j_iload C d3_terminalsIn_0 0 rfl ?_
  refine j_istore C d3_terminalsIn_1 (by decide) (lv' := [(1, .int p0), (0, .int p0)]) rfl ?_
  refine j_const C d3_terminalsIn_2 ?_
  refine j_istore C d3_terminalsIn_3 (by decide) (lv' := [(2, .int 0), (1, .int p0), (0, .int p0)]) rfl ?_
  refine j_join 43 (fun v1 => []) (fun v1 => [(2, .int v1)]) (fun v1 => []) (fun v1 => ?_) (fun k2 hk2 => ?_)
  · refine j_iload C d3_terminalsIn_43 0 rfl ?_
    exact j_iret0 C d3_terminalsIn_44
  · refine j_join 30 (fun v3 => []) (fun v3 => []) (fun v3 => []) (fun v3 => ?_) (fun k4 hk4 => ?_)
    · refine j_const C d3_terminalsIn_30 ?_
      exact j_iret0 C d3_terminalsIn_31
    · exact j_sub [1, 0] rfl (j_loop2 (fun v5 v6 => []) (fun v5 v6 => [(1, .int v5), (2, .int v6)]) (fun rc7 hrc7 v5 v6 => wX3_terminalsIn_4 C k2 k4 hk2 hk4 rc7 hrc7 v5 v6) N _ _)

theorem d3_append_0 : jdi cX3_append 0 1 1 := Or.inl ⟨1, by decide +kernel⟩
theorem d3_append_1 : jds cX3_append 1 3 2 := Or.inl ⟨3, by decide +kernel⟩
theorem d3_append_2 : jda cX3_append 2 0 3 := Or.inl ⟨0, by decide +kernel⟩
theorem d3_append_3 : jd cX3_append 3 (.getfield 15) 3 6 := by decide +kernel
theorem d3_append_6 : jdi cX3_append 6 2 7 := Or.inl ⟨2, by decide +kernel⟩
theorem d3_append_7 : jd cX3_append 7 (.iadd) 1 8 := by decide +kernel
theorem d3_append_8 : jdk cX3_append 8 1 9 := Or.inl ⟨1, by decide +kernel⟩
theorem d3_append_9 : jd cX3_append 9 (.isub) 1 10 := by decide +kernel
theorem d3_append_10 : jds cX3_append 10 4 12 := Or.inr (by decide +kernel)
theorem d3_append_12 : jdi cX3_append 12 4 14 := Or.inr (by decide +kernel)
theorem d3_append_14 : jda cX3_append 14 0 15 := Or.inl ⟨0, by decide +kernel⟩
theorem d3_append_15 : jd cX3_append 15 (.getfield 15) 3 18 := by decide +kernel
theorem d3_append_18 : jdb cX3_append 18 (.if_icmp .lt 34) 34 52 21 := by decide +kernel
theorem d3_append_21 : jdi cX3_append 21 4 23 := Or.inr (by decide +kernel)
theorem d3_append_23 : jdk cX3_append 23 40 25 := Or.inr (Or.inl ⟨40, by decide +kernel⟩)
theorem d3_append_25 : jdb cX3_append 25 (.if_icmp .ge 27) 27 52 28 := by decide +kernel
theorem d3_append_28 : jda cX3_append 28 0 29 := Or.inl ⟨0, by decide +kernel⟩
theorem d3_append_29 : jd cX3_append 29 (.getfield 9) 3 32 := by decide +kernel
theorem d3_append_32 : jdi cX3_append 32 4 34 := Or.inr (by decide +kernel)
theorem d3_append_34 : jdi cX3_append 34 3 35 := Or.inl ⟨3, by decide +kernel⟩
theorem d3_append_35 : jdk cX3_append 35 10 37 := Or.inr (Or.inl ⟨10, by decide +kernel⟩)
theorem d3_append_37 : jd cX3_append 37 (.irem) 1 38 := by decide +kernel
theorem d3_append_38 : jdk cX3_append 38 1 39 := Or.inl ⟨1, by decide +kernel⟩
theorem d3_append_39 : jd cX3_append 39 (.isub) 1 40 := by decide +kernel
theorem d3_append_40 : jd cX3_append 40 (.iastore) 1 41 := by decide +kernel
theorem d3_append_41 : jdi cX3_append 41 3 42 := Or.inl ⟨3, by decide +kernel⟩
theorem d3_append_42 : jdk cX3_append 42 10 44 := Or.inr (Or.inl ⟨10, by decide +kernel⟩)
theorem d3_append_44 : jd cX3_append 44 (.idiv) 1 45 := by decide +kernel
theorem d3_append_45 : jds cX3_append 45 3 46 := Or.inl ⟨3, by decide +kernel⟩
theorem d3_append_46 : jd cX3_append 46 (.iinc 4 (-1)) 3 49 := by decide +kernel
theorem d3_append_49 : jdb cX3_append 49 (.goto (-37)) (-37) 12 52 := by decide +kernel
theorem d3_append_52 : jda cX3_append 52 0 53 := Or.inl ⟨0, by decide +kernel⟩
theorem d3_append_53 : jd cX3_append 53 (.dup) 1 54 := by decide +kernel
theorem d3_append_54 : jd cX3_append 54 (.getfield 15) 3 57 := by decide +kernel
theorem d3_append_57 : jdi cX3_append 57 2 58 := Or.inl ⟨2, by decide +kernel⟩
theorem d3_append_58 : jd cX3_append 58 (.iadd) 1 59 := by decide +kernel
theorem d3_append_59 : jd cX3_append 59 (.putfield 15) 3 62 := by decide +kernel
theorem d3_append_62 : decode cX3_append 62 = .ok (.return_, 1) := by decide +kernel
set_option maxHeartbeats 4000000 in
set_option maxRecDepth 100000 in
theorem wX3_append_12 {X : jC} {tc : jTC} (C : jx X cX3_append 5 RX3 none tc ({ frames := 0, cells := 0, slots := 0, locals := 0 } : Room)) (h_ h_terminals : Nat) (p2 : Int32) (c_length : Int32) (k4 : ((Nat → Int32) → Option ((Nat → Int32) × Int32))) (hk4 : ∀ (v12 : (Nat → Int32)), jo X 5 (0, 0) (jQV X (fun (u : (Nat → Int32) × Int32) => [(h_, .inr (3, [.ref h_terminals, .int u.2])), (h_terminals, .inl (tc.1, 40, .inl u.1))])) (k4 v12) [(h_, .inr (3, [.ref h_terminals, .int c_length])), (h_terminals, .inl (tc.1, 40, .inl v12))] 52 [(0, .ref h_), (2, .int p2)] []) (rc8 : Int32 → Int32 → (Nat → Int32) → Option ((Nat → Int32) × Int32)) (hrc8 : ∀ (v5 : Int32) (v6 : Int32) (v7 : (Nat → Int32)), jo X 5 (0, 0) (jQV X (fun (u : (Nat → Int32) × Int32) => [(h_, .inr (3, [.ref h_terminals, .int u.2])), (h_terminals, .inl (tc.1, 40, .inl u.1))])) (rc8 v5 v6 v7) [(h_, .inr (3, [.ref h_terminals, .int c_length])), (h_terminals, .inl (tc.1, 40, .inl v7))] 12 [(0, .ref h_), (2, .int p2), (3, .int v5), (4, .int v6)] []) (v5 : Int32) (v6 : Int32) (v7 : (Nat → Int32)) : jo X 5 (0, 0) (jQV X (fun (u : (Nat → Int32) × Int32) => [(h_, .inr (3, [.ref h_terminals, .int u.2])), (h_terminals, .inl (tc.1, 40, .inl u.1))])) (bX3_append_12 c_length k4 rc8 v5 v6 v7) [(h_, .inr (3, [.ref h_terminals, .int c_length])), (h_terminals, .inl (tc.1, 40, .inl v7))] 12 [(0, .ref h_), (2, .int p2), (3, .int v5), (4, .int v6)] [] := by
  unfold bX3_append_12
  refine j_iload C d3_append_12 3 rfl ?_
  refine j_aload C d3_append_14 0 rfl ?_
  refine j_get C d3_append_15 fl3_15 0 rfl rfl ?_
  refine j_icmp_lt C d3_append_18 ?_ ?_
  · exact j_sub [0, 1] rfl (hk4 _)
  · refine j_iload C d3_append_21 3 rfl ?_
    refine j_const C d3_append_23 ?_
    refine j_icmp_ge C d3_append_25 ?_ ?_
    · exact j_sub [0, 1] rfl (hk4 _)
    · refine j_aload C d3_append_28 0 rfl ?_
      refine j_get C d3_append_29 fl3_9 0 rfl rfl ?_
      refine j_iload C d3_append_32 3 rfl ?_
      refine j_iload C d3_append_34 2 rfl ?_
      refine j_const C d3_append_35 ?_
      refine j_irem C d3_append_37 (by decide) ?_
      refine j_const C d3_append_38 ?_
      refine j_isub C d3_append_39 ?_
      refine j_iast C (fun f9 => [(h_, .inr (3, [.ref h_terminals, .int c_length])), (h_terminals, .inl (tc.1, 40, .inl f9))]) d3_append_40 1 rfl (fun _ => rfl) (fun f9 => ?_)
      refine j_iload C d3_append_41 2 rfl ?_
      refine j_const C d3_append_42 ?_
      refine j_idiv C d3_append_44 (by decide) ?_
      refine j_leti (fun x10 => ?_)
      refine j_istore C d3_append_45 (by decide) (lv' := [(3, .int x10), (0, .ref h_), (2, .int p2), (4, .int v6)]) rfl ?_
      refine j_iincN C (fun x11 => [(4, .int x11), (3, .int x10), (0, .ref h_), (2, .int p2)]) d3_append_46 3 rfl (by decide +kernel) (by decide) (fun _ => rfl) (fun x11 => ?_)
      refine j_goto C d3_append_49 ?_
      exact j_sub [2, 3, 1, 0] rfl (hrc8 _ _ _)

set_option maxHeartbeats 4000000 in
set_option maxRecDepth 100000 in
theorem kX3_append (l : Launch) (D : va_G) (tc : jTC) (N : Nat) (h_ h_terminals : Nat) (c_terminals : (Nat → Int32)) (c_length : Int32) (p1 : Int32) (p2 : Int32) : ctV l D tc yX3_append (Cond.code yX3_append cX3_append 5 none :: jtb) ({ frames := 0, cells := 0, slots := 0, locals := 0 } : Room) [.ref h_, .int p1, .int p2] [(h_, .inr (3, [.ref h_terminals, .int c_length])), (h_terminals, .inl (tc.1, 40, .inl c_terminals))] (fX3_append N c_terminals c_length p1 p2) (fun (u : (Nat → Int32) × Int32) => [(h_, .inr (3, [.ref h_terminals, .int u.2])), (h_terminals, .inl (tc.1, 40, .inl u.1))]) := by
  refine ctV_of (lv0 := [(0, .ref h_), (1, .int p1), (2, .int p2)]) (by decide +kernel) (Nat.le_of_ble_eq_true rfl) rfl (fun X C => ?_)
  unfold fX3_append
  refine j_iload C d3_append_0 1 rfl ?_
  refine j_istore C d3_append_1 (by decide) (lv' := [(3, .int p1), (0, .ref h_), (1, .int p1), (2, .int p2)]) rfl ?_
  refine j_aload C d3_append_2 1 rfl ?_
  refine j_get C d3_append_3 fl3_15 0 rfl rfl ?_
  refine j_iload C d3_append_6 3 rfl ?_
  refine j_iadd C d3_append_7 ?_
  refine j_const C d3_append_8 ?_
  refine j_isub C d3_append_9 ?_
  refine j_leti (fun x1 => ?_)
  refine j_istore C d3_append_10 (by decide) (lv' := [(4, .int x1), (3, .int p1), (0, .ref h_), (1, .int p1), (2, .int p2)]) rfl ?_
  refine j_join 52 (fun v2 => [(h_, .inr (3, [.ref h_terminals, .int c_length])), (h_terminals, .inl (tc.1, 40, .inl v2))]) (fun v2 => [(0, .ref h_), (2, .int p2)]) (fun v2 => []) (fun v2 => ?_) (fun k4 hk4 => ?_)
  · refine j_aload C d3_append_52 0 rfl ?_
    refine j_dup C d3_append_53 rfl ?_
    refine j_get C d3_append_54 fl3_15 0 rfl rfl ?_
    refine j_iload C d3_append_57 1 rfl ?_
    refine j_iadd C d3_append_58 ?_
    refine j_leti (fun x3 => ?_)
    refine j_putq C d3_append_59 fq3_15 0 rfl rfl rfl (Nat.le_of_ble_eq_true rfl) (ws' := [(h_, .inr (3, [.ref h_terminals, .int x3])), (h_terminals, .inl (tc.1, 40, .inl v2))]) rfl ?_
    exact j_vret C d3_append_62 rfl
  · exact j_sub [2, 4, 1, 0] rfl (j_loop3 (fun v5 v6 v7 => [(h_, .inr (3, [.ref h_terminals, .int c_length])), (h_terminals, .inl (tc.1, 40, .inl v7))]) (fun v5 v6 v7 => [(0, .ref h_), (2, .int p2), (3, .int v5), (4, .int v6)]) (fun rc8 hrc8 v5 v6 v7 => wX3_append_12 C h_ h_terminals p2 c_length k4 hk4 rc8 hrc8 v5 v6 v7) N _ _ _)

theorem d3_tokenAt_0 : jdi cX3_tokenAt 0 1 1 := Or.inl ⟨1, by decide +kernel⟩
theorem d3_tokenAt_1 : jdb cX3_tokenAt 1 (.ifCond .lt 20) 20 21 4 := by decide +kernel
theorem d3_tokenAt_4 : jdi cX3_tokenAt 4 1 5 := Or.inl ⟨1, by decide +kernel⟩
theorem d3_tokenAt_5 : jda cX3_tokenAt 5 0 6 := Or.inl ⟨0, by decide +kernel⟩
theorem d3_tokenAt_6 : jd cX3_tokenAt 6 (.getfield 15) 3 9 := by decide +kernel
theorem d3_tokenAt_9 : jdb cX3_tokenAt 9 (.if_icmp .ge 12) 12 21 12 := by decide +kernel
theorem d3_tokenAt_12 : jda cX3_tokenAt 12 0 13 := Or.inl ⟨0, by decide +kernel⟩
theorem d3_tokenAt_13 : jd cX3_tokenAt 13 (.getfield 9) 3 16 := by decide +kernel
theorem d3_tokenAt_16 : jdi cX3_tokenAt 16 1 17 := Or.inl ⟨1, by decide +kernel⟩
theorem d3_tokenAt_17 : jd cX3_tokenAt 17 (.iaload) 1 18 := by decide +kernel
theorem d3_tokenAt_18 : jdb cX3_tokenAt 18 (.goto 5) 5 23 21 := by decide +kernel
theorem d3_tokenAt_21 : jdk cX3_tokenAt 21 8 23 := Or.inr (Or.inl ⟨8, by decide +kernel⟩)
theorem d3_tokenAt_23 : decode cX3_tokenAt 23 = .ok (.ireturn, 1) := by decide +kernel
set_option maxHeartbeats 4000000 in
set_option maxRecDepth 100000 in
theorem kX3_tokenAt (l : Launch) (D : va_G) (tc : jTC) (h_ h_terminals : Nat) (c_terminals : (Nat → Int32)) (c_length : Int32) (p1 : Int32) : ctI0 l D tc yX3_tokenAt (Cond.code yX3_tokenAt cX3_tokenAt 2 (some .int) :: jtb) ({ frames := 0, cells := 0, slots := 0, locals := 0 } : Room) [.ref h_, .int p1] [(h_, .inr (3, [.ref h_terminals, .int c_length])), (h_terminals, .inl (tc.1, 40, .inl c_terminals))] (fX3_tokenAt c_terminals c_length p1) := by
  refine ctI0_of (lv0 := [(0, .ref h_), (1, .int p1)]) (by decide +kernel) (Nat.le_of_ble_eq_true rfl) rfl (fun X C => ?_)
  unfold fX3_tokenAt
  refine j_iload C d3_tokenAt_0 1 rfl ?_
  refine j_join 23 (fun v1 => [(h_, .inr (3, [.ref h_terminals, .int c_length])), (h_terminals, .inl (tc.1, 40, .inl c_terminals))]) (fun v1 => []) (fun v1 => [.int v1]) (fun v1 => ?_) (fun k2 hk2 => ?_)
  · exact j_iret0 C d3_tokenAt_23
  · refine j_join 21 (fun v3 => [(h_, .inr (3, [.ref h_terminals, .int c_length])), (h_terminals, .inl (tc.1, 40, .inl c_terminals))]) (fun v3 => []) (fun v3 => []) (fun v3 => ?_) (fun k4 hk4 => ?_)
    · refine j_const C d3_tokenAt_21 ?_
      exact hk2 _
    · refine j_if_lt C d3_tokenAt_1 ?_ ?_
      · exact j_sub [] rfl (hk4 _)
      · refine j_iload C d3_tokenAt_4 1 rfl ?_
        refine j_aload C d3_tokenAt_5 0 rfl ?_
        refine j_get C d3_tokenAt_6 fl3_15 0 rfl rfl ?_
        refine j_icmp_ge C d3_tokenAt_9 ?_ ?_
        · exact j_sub [] rfl (hk4 _)
        · refine j_aload C d3_tokenAt_12 0 rfl ?_
          refine j_get C d3_tokenAt_13 fl3_9 0 rfl rfl ?_
          refine j_iload C d3_tokenAt_16 1 rfl ?_
          refine j_iald C d3_tokenAt_17 1 rfl (fun x5 => ?_)
          refine j_goto C d3_tokenAt_18 ?_
          exact j_sub [] rfl (hk2 _)

theorem d4_push_0 : jda cX4_push 0 0 1 := Or.inl ⟨0, by decide +kernel⟩
theorem d4_push_1 : jd cX4_push 1 (.getfield 82) 3 4 := by decide +kernel
theorem d4_push_4 : jdk cX4_push 4 65 6 := Or.inr (Or.inl ⟨65, by decide +kernel⟩)
theorem d4_push_6 : jdb cX4_push 6 (.if_icmp .ge 33) 33 39 9 := by decide +kernel
theorem d4_push_9 : jda cX4_push 9 0 10 := Or.inl ⟨0, by decide +kernel⟩
theorem d4_push_10 : jd cX4_push 10 (.getfield 28) 3 13 := by decide +kernel
theorem d4_push_13 : jda cX4_push 13 0 14 := Or.inl ⟨0, by decide +kernel⟩
theorem d4_push_14 : jd cX4_push 14 (.getfield 82) 3 17 := by decide +kernel
theorem d4_push_17 : jdi cX4_push 17 1 18 := Or.inl ⟨1, by decide +kernel⟩
theorem d4_push_18 : jd cX4_push 18 (.iastore) 1 19 := by decide +kernel
theorem d4_push_19 : jda cX4_push 19 0 20 := Or.inl ⟨0, by decide +kernel⟩
theorem d4_push_20 : jd cX4_push 20 (.getfield 31) 3 23 := by decide +kernel
theorem d4_push_23 : jda cX4_push 23 0 24 := Or.inl ⟨0, by decide +kernel⟩
theorem d4_push_24 : jd cX4_push 24 (.getfield 82) 3 27 := by decide +kernel
theorem d4_push_27 : jdi cX4_push 27 2 28 := Or.inl ⟨2, by decide +kernel⟩
theorem d4_push_28 : jd cX4_push 28 (.iastore) 1 29 := by decide +kernel
theorem d4_push_29 : jda cX4_push 29 0 30 := Or.inl ⟨0, by decide +kernel⟩
theorem d4_push_30 : jd cX4_push 30 (.dup) 1 31 := by decide +kernel
theorem d4_push_31 : jd cX4_push 31 (.getfield 82) 3 34 := by decide +kernel
theorem d4_push_34 : jdk cX4_push 34 1 35 := Or.inl ⟨1, by decide +kernel⟩
theorem d4_push_35 : jd cX4_push 35 (.iadd) 1 36 := by decide +kernel
theorem d4_push_36 : jd cX4_push 36 (.putfield 82) 3 39 := by decide +kernel
theorem d4_push_39 : decode cX4_push 39 = .ok (.return_, 1) := by decide +kernel
set_option maxHeartbeats 4000000 in
set_option maxRecDepth 100000 in
theorem kX4_push (l : Launch) (D : va_G) (tc : jTC) (h_ h_stack h_bringers : Nat) (g_rules g_sets g_table g_input g_synchronizing g_trace g_traceLength g_tree g_errorParts g_errorCount g_index g_steps : Value) (c_stack : (Nat → Int32)) (c_bringers : (Nat → Int32)) (c_depth : Int32) (p1 : Int32) (p2 : Int32) : ctV l D tc yX4_push (Cond.code yX4_push cX4_push 3 none :: jtb) ({ frames := 0, cells := 0, slots := 0, locals := 0 } : Room) [.ref h_, .int p1, .int p2] [(h_, .inr (4, [g_rules, g_sets, g_table, g_input, g_synchronizing, g_trace, g_traceLength, g_tree, g_errorParts, g_errorCount, .ref h_stack, .ref h_bringers, .int c_depth, g_index, g_steps])), (h_stack, .inl (tc.1, 65, .inl c_stack)), (h_bringers, .inl (tc.1, 65, .inl c_bringers))] (fX4_push c_stack c_bringers c_depth p1 p2) (fun (u : (Nat → Int32) × (Nat → Int32) × Int32) => [(h_, .inr (4, [g_rules, g_sets, g_table, g_input, g_synchronizing, g_trace, g_traceLength, g_tree, g_errorParts, g_errorCount, .ref h_stack, .ref h_bringers, .int u.2.2, g_index, g_steps])), (h_stack, .inl (tc.1, 65, .inl u.1)), (h_bringers, .inl (tc.1, 65, .inl u.2.1))]) := by
  refine ctV_of (lv0 := [(0, .ref h_), (1, .int p1), (2, .int p2)]) (by decide +kernel) (Nat.le_of_ble_eq_true rfl) rfl (fun X C => ?_)
  unfold fX4_push
  refine j_aload C d4_push_0 0 rfl ?_
  refine j_get C d4_push_1 fl4_82 0 rfl rfl ?_
  refine j_const C d4_push_4 ?_
  refine j_join3 39 (fun v1 v2 v3 => [(h_, .inr (4, [g_rules, g_sets, g_table, g_input, g_synchronizing, g_trace, g_traceLength, g_tree, g_errorParts, g_errorCount, .ref h_stack, .ref h_bringers, .int v3, g_index, g_steps])), (h_stack, .inl (tc.1, 65, .inl v1)), (h_bringers, .inl (tc.1, 65, .inl v2))]) (fun v1 v2 v3 => []) (fun v1 v2 v3 => []) (fun v1 v2 v3 => ?_) (fun k4 hk4 => ?_)
  · exact j_vret C d4_push_39 rfl
  · refine j_icmp_ge C d4_push_6 ?_ ?_
    · exact j_sub [] rfl (hk4 _ _ _)
    · refine j_aload C d4_push_9 0 rfl ?_
      refine j_get C d4_push_10 fl4_28 0 rfl rfl ?_
      refine j_aload C d4_push_13 0 rfl ?_
      refine j_get C d4_push_14 fl4_82 0 rfl rfl ?_
      refine j_iload C d4_push_17 1 rfl ?_
      refine j_iast C (fun f5 => [(h_, .inr (4, [g_rules, g_sets, g_table, g_input, g_synchronizing, g_trace, g_traceLength, g_tree, g_errorParts, g_errorCount, .ref h_stack, .ref h_bringers, .int c_depth, g_index, g_steps])), (h_stack, .inl (tc.1, 65, .inl f5)), (h_bringers, .inl (tc.1, 65, .inl c_bringers))]) d4_push_18 1 rfl (fun _ => rfl) (fun f5 => ?_)
      refine j_aload C d4_push_19 0 rfl ?_
      refine j_get C d4_push_20 fl4_31 0 rfl rfl ?_
      refine j_aload C d4_push_23 0 rfl ?_
      refine j_get C d4_push_24 fl4_82 0 rfl rfl ?_
      refine j_iload C d4_push_27 2 rfl ?_
      refine j_iast C (fun f6 => [(h_, .inr (4, [g_rules, g_sets, g_table, g_input, g_synchronizing, g_trace, g_traceLength, g_tree, g_errorParts, g_errorCount, .ref h_stack, .ref h_bringers, .int c_depth, g_index, g_steps])), (h_stack, .inl (tc.1, 65, .inl f5)), (h_bringers, .inl (tc.1, 65, .inl f6))]) d4_push_28 2 rfl (fun _ => rfl) (fun f6 => ?_)
      refine j_aload C d4_push_29 0 rfl ?_
      refine j_dup C d4_push_30 rfl ?_
      refine j_get C d4_push_31 fl4_82 0 rfl rfl ?_
      refine j_const C d4_push_34 ?_
      refine j_iadd C d4_push_35 ?_
      refine j_leti (fun x7 => ?_)
      refine j_putq C d4_push_36 fq4_82 0 rfl rfl rfl (Nat.le_of_ble_eq_true rfl) (ws' := [(h_, .inr (4, [g_rules, g_sets, g_table, g_input, g_synchronizing, g_trace, g_traceLength, g_tree, g_errorParts, g_errorCount, .ref h_stack, .ref h_bringers, .int x7, g_index, g_steps])), (h_stack, .inl (tc.1, 65, .inl f5)), (h_bringers, .inl (tc.1, 65, .inl f6))]) rfl ?_
      exact j_sub [] rfl (hk4 _ _ _)

