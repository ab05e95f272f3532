/-! THE LAW, in the pure half: its start, its loop -/
theorem i362 {N : Nat} (hN : 2000 < N) : ∃ f, fX10_init362 N = some f ∧ ∀ w, w < 362 → f w = 41984 := by
  unfold fX10_init362
  refine vlp2 (B := bX10_init362) (fun j v f => v = nI j ∧ ∀ w, w < j → f w = 41984) (fun o => ∃ f, o = some f ∧ ∀ w, w < 362 → f w = 41984) 362 ?_ ?_ N 0 _ (by omega) ⟨rfl, fun w hw => absurd hw (Nat.not_lt_zero _)⟩
  · rintro j v f hj ⟨rfl, hf⟩
    left
    refine ⟨nI (j + 1), upd f j 41984, ⟨rfl, fun w hw => ?_⟩, fun rc => ?_⟩
    · by_cases e : w = j
      · subst e; simp [upd]
      · have := hf w (by omega)
        simp [upd, e, this]
    · unfold bX10_init362
      rw [if_neg (show ¬ (362 : Int32) ≤ nI j from nI_ge (b := 362) hj (by decide)), as_ok hj, obs, ← nI_1]
      rfl
  · rintro v f ⟨rfl, hf⟩
    refine ⟨some f, ⟨f, rfl, hf⟩, fun rc => ?_⟩
    unfold bX10_init362
    rw [if_pos (show (362 : Int32) ≤ nI 362 from Int32.le_refl _)]
theorem i1469 {N : Nat} (hN : 2000 < N) : ∃ f, fX10_init1469 N = some f ∧ ∀ w, w < 1469 → f w = 41984 := by
  unfold fX10_init1469
  refine vlp2 (B := bX10_init1469) (fun j v f => v = nI j ∧ ∀ w, w < j → f w = 41984) (fun o => ∃ f, o = some f ∧ ∀ w, w < 1469 → f w = 41984) 1469 ?_ ?_ N 0 _ (by omega) ⟨rfl, fun w hw => absurd hw (Nat.not_lt_zero _)⟩
  · rintro j v f hj ⟨rfl, hf⟩
    left
    refine ⟨nI (j + 1), upd f j 41984, ⟨rfl, fun w hw => ?_⟩, fun rc => ?_⟩
    · by_cases e : w = j
      · subst e; simp [upd]
      · have := hf w (by omega)
        simp [upd, e, this]
    · unfold bX10_init1469
      rw [if_neg (show ¬ (1469 : Int32) ≤ nI j from nI_ge (b := 1469) hj (by decide)), as_ok hj, obs, ← nI_1]
      rfl
  · rintro v f ⟨rfl, hf⟩
    refine ⟨some f, ⟨f, rfl, hf⟩, fun rc => ?_⟩
    unfold bX10_init1469
    rw [if_pos (show (1469 : Int32) ≤ nI 1469 from Int32.le_refl _)]
theorem smN_0 {f : Nat → Nat} (h : ∀ c, f c = 0) : ∀ n, smN f n = 0
  | 0 => rfl
  | n + 1 => by rw [smN, smN_0 h n, h n]
theorem WC_one : WC (upd (upd (upd (upd (upd (upd (upd (upd (fun _ => 0) 0 1) 1 1) 2 1) 3 1) 4 1) 5 1) 6 1) 7 1) (fun _ => 1) := by
  intro t ht
  have h : t = 0 ∨ t = 1 ∨ t = 2 ∨ t = 3 ∨ t = 4 ∨ t = 5 ∨ t = 6 ∨ t = 7 := by omega
  rcases h with rfl | rfl | rfl | rfl | rfl | rfl | rfl | rfl <;> exact ⟨by decide +kernel, by decide, by decide⟩
theorem hI_no : (0 : Int64) = hI none := by decide +kernel
theorem lI_no : (0 : Int64) = lI none := by decide +kernel
theorem REL_init {N : Nat} (hN : 2000 < N) : ∃ u, fX11_init N = some u ∧ REL (a0I u) m0I := by
  obtain ⟨f, e1, h1⟩ := i362 hN
  obtain ⟨g, e2, h2⟩ := i1469 hN
  obtain ⟨E, F, W, e3, h3⟩ := c_compute (codes := fun _ => 0) (RC_nil _) okG_nil hN 0 (fun _ => 0) (fun _ => 0)
  obtain ⟨f1, f2, e4, h4, h5⟩ := c_setsBecome 0 E (fun _ => 0) F (fun _ => 0) W
  have hno : okW none := by simp [okW]
  refine ⟨(f, g, (E, F, W), (E, f1, f2)), ?_, ?_⟩
  · simp only [fX11_init, fX0_init, fX5_init, fX6_init, fX2_init, fX7_init, fX8_init, fX1_init, fX3_init, fX4_init, fX9_init, obs, e1, e2, e3, e4]
  · refine ⟨⟨[], [], [], RC_nil _, RM_nil _ _ _, okG_nil, ⟨Nat.zero_le _, rfl, 0, by decide, rfl, fun i h => absurd h (Nat.not_lt_zero _)⟩, ⟨Nat.zero_le _, rfl, fun i h => absurd h (Nat.not_lt_zero _)⟩, h3, ?_, ?_, FL_nil _ _, FL_nil _ _, Or.inl rfl, Or.inr ⟨rfl, rfl, fun n hn => ⟨h4 n hn, h5 n hn⟩⟩⟩, ⟨[], ⟨rfl, Nat.zero_le _, ?_, fun k h => absurd h (Nat.not_lt_zero _)⟩, ⟨rfl, Nat.zero_le _, ?_, fun k h => absurd h (Nat.not_lt_zero _)⟩⟩, fun n _ => rfl, ⟨fun _ => 1, WC_one, WC_one⟩, ⟨⟨none, hno⟩, ⟨w0, fun t _ => Nat.zero_le _, h2 1468 (by decide), hI_no, lI_no⟩, rfl, fun u h => by cases h⟩, ⟨0, Nat.zero_le _, rfl, rfl, fun k h => absurd h (Nat.not_lt_zero _)⟩, ⟨0, Nat.zero_le _, rfl, rfl, fun _ => 0, fun k _ h => absurd h (Nat.not_lt_zero _), fun k _ h => absurd h (Nat.not_lt_zero _), fun k h => absurd h (Nat.not_lt_zero _)⟩, ⟨0, Nat.zero_le _, rfl, rfl, fun k h => absurd h (Nat.not_lt_zero _)⟩⟩
    · refine ⟨⟨fun p _ h => absurd h (Nat.not_lt_zero _), fun n t _ _ => rfl, fun n t _ _ r h => by simp at h⟩, ?_⟩
      exact (congrArg nI (smN_0 (fun c => rfl) 72)).symm
    · exact Or.inl ⟨rfl, rfl, fun _ => ⟨none, hno⟩, fun w hw => ⟨h1 w hw, hI_no, lI_no⟩⟩
    · exact fun s hs => absurd hs (by simp)
    · exact fun s hs => absurd hs (by simp)
