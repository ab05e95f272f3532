theorem dL_33 : decode cL_law 33 = .ok (.tableswitch 1279 0 45 #[199, 274, 297, 310, 323, 346, 369, 402, 425, 448, 471, 494, 507, 530, 553, 576, 599, 632, 665, 678, 711, 734, 767, 810, 823, 846, 869, 882, 915, 938, 951, 974, 987, 1000, 1033, 1046, 1069, 1082, 1105, 1128, 1151, 1184, 1197, 1220, 1233, 1256], 199) := by decide +kernel
def lwJ (i : Int32) (L : Nat) : Bool := inb i L && (inb (i + 1) L && (inb (i + 2) L && (inb (i + 3) L && (inb (i + 4) L && (inb (i + 5) L && inb (i + 6) L)))))
theorem lwJ_I {i : Int32} {L : Nat} (h : lwJ i L = true) : lwI i L := by
  unfold lwJ at h
  simp only [Bool.and_eq_true] at h
  exact ⟨inb_vp h.1, inb_vp h.2.1, inb_vp h.2.2.1, inb_vp h.2.2.2.1, inb_vp h.2.2.2.2.1, inb_vp h.2.2.2.2.2.1, inb_vp h.2.2.2.2.2.2⟩
def lwP (N : Nat) (xs : Nat → Int32) (rc : Int32 × LC × LM → Option Unit) (i : Int32) (a : LC) (m : LM) : Nat → Option Unit := fun k => match k with
  | 0 => lP0 N xs rc i a m
  | 1 => lP1 N xs rc i a m
  | 2 => lP2 N xs rc i a m
  | 3 => lP3 N xs rc i a m
  | 4 => lP4 N xs rc i a m
  | 5 => lP5 N xs rc i a m
  | 6 => lP6 N xs rc i a m
  | 7 => lP7 N xs rc i a m
  | 8 => lP8 N xs rc i a m
  | 9 => lP9 N xs rc i a m
  | 10 => lP10 N xs rc i a m
  | 11 => lP11 N xs rc i a m
  | 12 => lP12 N xs rc i a m
  | 13 => lP13 N xs rc i a m
  | 14 => lP14 N xs rc i a m
  | 15 => lP15 N xs rc i a m
  | 16 => lP16 N xs rc i a m
  | 17 => lP17 N xs rc i a m
  | 18 => lP18 N xs rc i a m
  | 19 => lP19 N xs rc i a m
  | 20 => lP20 N xs rc i a m
  | 21 => lP21 N xs rc i a m
  | 22 => lP22 N xs rc i a m
  | 23 => lP23 N xs rc i a m
  | 24 => lP24 N xs rc i a m
  | 25 => lP25 N xs rc i a m
  | 26 => lP26 N xs rc i a m
  | 27 => lP27 N xs rc i a m
  | 28 => lP28 N xs rc i a m
  | 29 => lP29 N xs rc i a m
  | 30 => lP30 N xs rc i a m
  | 31 => lP31 N xs rc i a m
  | 32 => lP32 N xs rc i a m
  | 33 => lP33 N xs rc i a m
  | 34 => lP34 N xs rc i a m
  | 35 => lP35 N xs rc i a m
  | 36 => lP36 N xs rc i a m
  | 37 => lP37 N xs rc i a m
  | 38 => lP38 N xs rc i a m
  | 39 => lP39 N xs rc i a m
  | 40 => lP40 N xs rc i a m
  | 41 => lP41 N xs rc i a m
  | 42 => lP42 N xs rc i a m
  | 43 => lP43 N xs rc i a m
  | 44 => lP44 N xs rc i a m
  | 45 => lP45 N xs rc i a m
  | _ => none
/-- the law's step: one call of both, or the end -/
def lwB (N L : Nat) (xs : Nat → Int32) (rc : Int32 × LC × LM → Option Unit) (v : Int32 × LC × LM) : Option Unit :=
  if Int32.ofNat L - 7 < v.1 then some () else
  if lwJ v.1 L = true then
    (if (xs v.1.toNatClampNeg &&& 63).toInt < 0 ∨ 45 < (xs v.1.toNatClampNeg &&& 63).toInt then rc (v.1 + 7, v.2.1, v.2.2) else lwP N xs rc v.1 v.2.1 v.2.2 ((xs v.1.toNatClampNeg &&& 63).toInt - 0).toNat)
  else none
theorem j_table {ρ : Type} {X : jC} {cc : ByteArray} {nL : Nat} {own : String} {ret : Option FieldType} {tc : jTC} {rm : Room} {kn : Nat × Nat} {Q : ρ → State → Prop} {ws : va_W} {pc tgt len : Nat} {lv : List (Nat × Value)} {st : List Value} {A : Option ρ} {P : Nat → Option ρ} {x : Int32} {dflt hi : Int} {offs : Array Int} (C : jx X cc nL own ret tc rm) (hd : decode cc pc = .ok (.tableswitch dflt 0 hi offs, len)) (hA : jo X nL kn Q A ws tgt lv st) (ht : (pc : Int) + dflt = (tgt : Int)) (hB : ∀ k : Nat, (k : Int) ≤ hi → ∃ (off : Int) (t : Nat), offs[k]? = some off ∧ (pc : Int) + off = (t : Int) ∧ jo X nL kn Q (P k) ws t lv st) : jo X nL kn Q (if x.toInt < 0 ∨ hi < x.toInt then A else P (x.toInt - 0).toNat) ws pc lv (.int x :: st) := by
  intro o ho H locs ls hP hD hS hl
  by_cases h : x.toInt < 0 ∨ hi < x.toInt
  · rw [if_pos h] at ho
    exact lv_tableOut C.1 C.2.1 hd h ht (hA o ho H locs ls hP hD hS hl)
  · rw [if_neg h] at ho
    obtain ⟨off, t, h1, h2, h3⟩ := hB (x.toInt - 0).toNat (by omega)
    exact lv_tableIn C.1 C.2.1 hd (fun hc => h (Or.inl hc)) (fun hc => h (Or.inr hc)) h1 h2 (h3 o ho H locs ls hP hD hS hl)
set_option maxHeartbeats 4000000 in
theorem lw_cases (X : jC) {tc : jTC} {b L N : Nat} {xs : Nat → Int32} {q : Nat → Nat} (C : jx X cL_law 4 RL ret tc room_1) (hX : lwX X b L xs) {Q : Unit → State → Prop} (rc : Int32 × LC × LM → Option Unit) (hrc : ∀ i a m, jo X 4 (99, 42625) Q (rc (i, a, m)) (wL tc q a m) 18 [(0, .ref b), (1, .ref (q 0)), (2, .ref (q 63)), (3, .int i)] []) (i : Int32) (hi : lwI i L) (a : LC) (m : LM) (k : Nat) (hk : (k : Int) ≤ 45) : ∃ (off : Int) (t : Nat), (#[199, 274, 297, 310, 323, 346, 369, 402, 425, 448, 471, 494, 507, 530, 553, 576, 599, 632, 665, 678, 711, 734, 767, 810, 823, 846, 869, 882, 915, 938, 951, 974, 987, 1000, 1033, 1046, 1069, 1082, 1105, 1128, 1151, 1184, 1197, 1220, 1233, 1256] : Array Int)[k]? = some off ∧ ((33 : Nat) : Int) + off = (t : Int) ∧ jo X 4 (99, 42625) Q (lwP N xs rc i a m k) (wL tc q a m) t [(0, .ref b), (1, .ref (q 0)), (2, .ref (q 63)), (3, .int i)] [] := by
  have h : k = 0 ∨ k = 1 ∨ k = 2 ∨ k = 3 ∨ k = 4 ∨ k = 5 ∨ k = 6 ∨ k = 7 ∨ k = 8 ∨ k = 9 ∨ k = 10 ∨ k = 11 ∨ k = 12 ∨ k = 13 ∨ k = 14 ∨ k = 15 ∨ k = 16 ∨ k = 17 ∨ k = 18 ∨ k = 19 ∨ k = 20 ∨ k = 21 ∨ k = 22 ∨ k = 23 ∨ k = 24 ∨ k = 25 ∨ k = 26 ∨ k = 27 ∨ k = 28 ∨ k = 29 ∨ k = 30 ∨ k = 31 ∨ k = 32 ∨ k = 33 ∨ k = 34 ∨ k = 35 ∨ k = 36 ∨ k = 37 ∨ k = 38 ∨ k = 39 ∨ k = 40 ∨ k = 41 ∨ k = 42 ∨ k = 43 ∨ k = 44 ∨ k = 45 := by omega
  rcases h with rfl | rfl | rfl | rfl | rfl | rfl | rfl | rfl | rfl | rfl | rfl | rfl | rfl | rfl | rfl | rfl | rfl | rfl | rfl | rfl | rfl | rfl | rfl | rfl | rfl | rfl | rfl | rfl | rfl | rfl | rfl | rfl | rfl | rfl | rfl | rfl | rfl | rfl | rfl | rfl | rfl | rfl | rfl | rfl | rfl | rfl
  · exact ⟨199, 232, rfl, rfl, lc0 (N := N) X C hX rc hrc i hi a m⟩
  · exact ⟨274, 307, rfl, rfl, lc1 (N := N) X C hX rc hrc i hi a m⟩
  · exact ⟨297, 330, rfl, rfl, lc2 (N := N) X C hX rc hrc i hi a m⟩
  · exact ⟨310, 343, rfl, rfl, lc3 (N := N) X C hX rc hrc i hi a m⟩
  · exact ⟨323, 356, rfl, rfl, lc4 (N := N) X C hX rc hrc i hi a m⟩
  · exact ⟨346, 379, rfl, rfl, lc5 (N := N) X C hX rc hrc i hi a m⟩
  · exact ⟨369, 402, rfl, rfl, lc6 (N := N) X C hX rc hrc i hi a m⟩
  · exact ⟨402, 435, rfl, rfl, lc7 (N := N) X C hX rc hrc i hi a m⟩
  · exact ⟨425, 458, rfl, rfl, lc8 (N := N) X C hX rc hrc i hi a m⟩
  · exact ⟨448, 481, rfl, rfl, lc9 (N := N) X C hX rc hrc i hi a m⟩
  · exact ⟨471, 504, rfl, rfl, lc10 (N := N) X C hX rc hrc i hi a m⟩
  · exact ⟨494, 527, rfl, rfl, lc11 (N := N) X C hX rc hrc i hi a m⟩
  · exact ⟨507, 540, rfl, rfl, lc12 (N := N) X C hX rc hrc i hi a m⟩
  · exact ⟨530, 563, rfl, rfl, lc13 (N := N) X C hX rc hrc i hi a m⟩
  · exact ⟨553, 586, rfl, rfl, lc14 (N := N) X C hX rc hrc i hi a m⟩
  · exact ⟨576, 609, rfl, rfl, lc15 (N := N) X C hX rc hrc i hi a m⟩
  · exact ⟨599, 632, rfl, rfl, lc16 (N := N) X C hX rc hrc i hi a m⟩
  · exact ⟨632, 665, rfl, rfl, lc17 (N := N) X C hX rc hrc i hi a m⟩
  · exact ⟨665, 698, rfl, rfl, lc18 (N := N) X C hX rc hrc i hi a m⟩
  · exact ⟨678, 711, rfl, rfl, lc19 (N := N) X C hX rc hrc i hi a m⟩
  · exact ⟨711, 744, rfl, rfl, lc20 (N := N) X C hX rc hrc i hi a m⟩
  · exact ⟨734, 767, rfl, rfl, lc21 (N := N) X C hX rc hrc i hi a m⟩
  · exact ⟨767, 800, rfl, rfl, lc22 (N := N) X C hX rc hrc i hi a m⟩
  · exact ⟨810, 843, rfl, rfl, lc23 (N := N) X C hX rc hrc i hi a m⟩
  · exact ⟨823, 856, rfl, rfl, lc24 (N := N) X C hX rc hrc i hi a m⟩
  · exact ⟨846, 879, rfl, rfl, lc25 (N := N) X C hX rc hrc i hi a m⟩
  · exact ⟨869, 902, rfl, rfl, lc26 (N := N) X C hX rc hrc i hi a m⟩
  · exact ⟨882, 915, rfl, rfl, lc27 (N := N) X C hX rc hrc i hi a m⟩
  · exact ⟨915, 948, rfl, rfl, lc28 (N := N) X C hX rc hrc i hi a m⟩
  · exact ⟨938, 971, rfl, rfl, lc29 (N := N) X C hX rc hrc i hi a m⟩
  · exact ⟨951, 984, rfl, rfl, lc30 (N := N) X C hX rc hrc i hi a m⟩
  · exact ⟨974, 1007, rfl, rfl, lc31 (N := N) X C hX rc hrc i hi a m⟩
  · exact ⟨987, 1020, rfl, rfl, lc32 (N := N) X C hX rc hrc i hi a m⟩
  · exact ⟨1000, 1033, rfl, rfl, lc33 (N := N) X C hX rc hrc i hi a m⟩
  · exact ⟨1033, 1066, rfl, rfl, lc34 (N := N) X C hX rc hrc i hi a m⟩
  · exact ⟨1046, 1079, rfl, rfl, lc35 (N := N) X C hX rc hrc i hi a m⟩
  · exact ⟨1069, 1102, rfl, rfl, lc36 (N := N) X C hX rc hrc i hi a m⟩
  · exact ⟨1082, 1115, rfl, rfl, lc37 (N := N) X C hX rc hrc i hi a m⟩
  · exact ⟨1105, 1138, rfl, rfl, lc38 (N := N) X C hX rc hrc i hi a m⟩
  · exact ⟨1128, 1161, rfl, rfl, lc39 (N := N) X C hX rc hrc i hi a m⟩
  · exact ⟨1151, 1184, rfl, rfl, lc40 (N := N) X C hX rc hrc i hi a m⟩
  · exact ⟨1184, 1217, rfl, rfl, lc41 (N := N) X C hX rc hrc i hi a m⟩
  · exact ⟨1197, 1230, rfl, rfl, lc42 (N := N) X C hX rc hrc i hi a m⟩
  · exact ⟨1220, 1253, rfl, rfl, lc43 (N := N) X C hX rc hrc i hi a m⟩
  · exact ⟨1233, 1266, rfl, rfl, lc44 (N := N) X C hX rc hrc i hi a m⟩
  · exact ⟨1256, 1289, rfl, rfl, lc45 (N := N) X C hX rc hrc i hi a m⟩
set_option maxHeartbeats 4000000 in
theorem lw_loop (X : jC) {tc : jTC} {b L N : Nat} {xs : Nat → Int32} {q : Nat → Nat} (C : jx X cL_law 4 RL ret tc room_1) (hX : lwX X b L xs) {Q : Unit → State → Prop} (hend : ∀ (ws : va_W) (lv : List (Nat × Value)), jo X 4 (99, 42625) Q (some ()) ws 1318 lv []) (F : Nat) (v : Int32 × LC × LM) : jo X 4 (99, 42625) Q (itr (lwB N L xs) F v) (wL tc q v.2.1 v.2.2) 18 [(0, .ref b), (1, .ref (q 0)), (2, .ref (q 63)), (3, .int v.1)] [] := by
  refine j_loop (B := lwB N L xs) (fun v => wL tc q v.2.1 v.2.2) (fun v => [(0, .ref b), (1, .ref (q 0)), (2, .ref (q 63)), (3, .int v.1)]) (fun rc hrc v => ?_) F v
  have hrc' : ∀ i a m, jo X 4 (99, 42625) Q (rc (i, a, m)) (wL tc q a m) 18 [(0, .ref b), (1, .ref (q 0)), (2, .ref (q 63)), (3, .int i)] [] := fun i a m => hrc (i, a, m)
  obtain ⟨i, a, m⟩ := v
  show jo X 4 (99, 42625) Q (lwB N L xs rc (i, a, m)) (wL tc q a m) 18 [(0, .ref b), (1, .ref (q 0)), (2, .ref (q 63)), (3, .int i)] []
  unfold lwB
  refine j_iload C dL_18 3 rfl ?_
  refine j_aload C dL_19 0 rfl ?_
  refine j_slen C hX dL_20 ?_
  refine j_const C dL_21 ?_
  refine j_isub C dL_23 ?_
  refine j_icmp_gt C dL_24 ?_ ?_
  · exact hend _ _
  · by_cases hj : lwJ i L = true
    · rw [if_pos hj]
      have hi := lwJ_I hj
      refine j_aload C dL_27 0 rfl ?_
      refine j_iload C dL_28 3 rfl ?_
      refine j_sld C hX dL_29 hi.1 ?_
      refine j_const C dL_30 ?_
      refine j_iand C dL_32 ?_
      exact j_table C dL_33 (tgt := 1312) (j_lnext C (hrc' _ _ _)) rfl (lw_cases X C hX rc hrc' i hi a m)
    · rw [if_neg hj]
      exact j_none
