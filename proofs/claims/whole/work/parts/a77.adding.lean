/-! THE REFERENCE'S adding of a production: the rest of the arguments, the comparing, the putting -/
theorem m_tail (c_rules c_lefts c_sizes c_rights c_edits c_pastRules c_pastLefts c_pastSizes c_pastRights c_levels c_codes c_details c_isWorked c_empties c_firsts c_follows c_isKept c_keptEmpties c_keptFirsts c_keptFollows c_strings c_longs c_trial c_trialLong) (f : Nat → Int32) (k74) {m : Nat} (hm : m ≤ 5) {N : Nat} (hN : 30 < N) : ((∀ k, m ≤ k → k < 5 → f k = -1) ∧ itr (bX12_addProduction_70 c_rules c_lefts c_sizes c_rights c_edits c_pastRules c_pastLefts c_pastSizes c_pastRights c_levels c_codes c_details c_isWorked c_empties c_firsts c_follows c_isKept c_keptEmpties c_keptFirsts c_keptFollows c_strings c_longs c_trial c_trialLong f k74) N (nI m) = k74 ()) ∨ ((¬ ∀ k, m ≤ k → k < 5 → f k = -1) ∧ itr (bX12_addProduction_70 c_rules c_lefts c_sizes c_rights c_edits c_pastRules c_pastLefts c_pastSizes c_pastRights c_levels c_codes c_details c_isWorked c_empties c_firsts c_follows c_isKept c_keptEmpties c_keptFirsts c_keptFollows c_strings c_longs c_trial c_trialLong f k74) N (nI m) = some ((-1), c_rules, c_lefts, c_sizes, c_rights, c_edits, c_pastRules, c_pastLefts, c_pastSizes, c_pastRights, c_levels, c_codes, c_details, f, c_isWorked, c_empties, c_firsts, c_follows, c_isKept, c_keptEmpties, c_keptFirsts, c_keptFollows, c_strings, c_longs, c_trial, c_trialLong)) := by
  refine vlp1 (B := bX12_addProduction_70 c_rules c_lefts c_sizes c_rights c_edits c_pastRules c_pastLefts c_pastSizes c_pastRights c_levels c_codes c_details c_isWorked c_empties c_firsts c_follows c_isKept c_keptEmpties c_keptFirsts c_keptFollows c_strings c_longs c_trial c_trialLong f k74) (fun j v => v = nI (m + j) ∧ m + j ≤ 5 ∧ ∀ k, m ≤ k → k < m + j → f k = -1) (fun r => ((∀ k, m ≤ k → k < 5 → f k = -1) ∧ r = k74 ()) ∨ ((¬ ∀ k, m ≤ k → k < 5 → f k = -1) ∧ r = some ((-1), c_rules, c_lefts, c_sizes, c_rights, c_edits, c_pastRules, c_pastLefts, c_pastSizes, c_pastRights, c_levels, c_codes, c_details, f, c_isWorked, c_empties, c_firsts, c_follows, c_isKept, c_keptEmpties, c_keptFirsts, c_keptFollows, c_strings, c_longs, c_trial, c_trialLong))) (5 - m) ?_ ?_ N (nI m) (by omega) ⟨rfl, hm, fun k h1 h2 => by omega⟩
  · rintro j v hj ⟨rfl, hb, h1⟩
    by_cases hx : f (m + j) = -1
    · left
      refine ⟨nI (m + (j + 1)), ⟨rfl, by omega, fun k a b => ?_⟩, fun rc => ?_⟩
      · by_cases e : k = m + j
        · rw [e]; exact hx
        · exact h1 k a (by omega)
      · simp only [bX12_addProduction_70]
        rw [if_neg (nleL 5 5 (by omega)), ag_ok (show m + j < 5 by omega)]
        simp only [obs, lt_, nI_1]
        rw [if_pos hx]
        rfl
    · right
      refine ⟨_, Or.inr ⟨fun ha => hx (ha _ (by omega) (by omega)), rfl⟩, fun rc => ?_⟩
      simp only [bX12_addProduction_70]
      rw [if_neg (nleL 5 5 (by omega)), ag_ok (show m + j < 5 by omega)]
      simp only [obs]
      rw [if_neg hx]
  · rintro v ⟨rfl, hb, h1⟩
    refine ⟨_, Or.inl ⟨fun k a b => h1 k a (by omega), rfl⟩, fun rc => ?_⟩
    simp only [bX12_addProduction_70]
    rw [if_pos (leL 5 5 (by omega) (by omega))]
theorem m_cmp (rights f : Nat → Int32) {m p : Nat} (hm : m ≤ 5) (hp : p < 24) (k57) (b : Bool) {N : Nat} (hN : 30 < N) : itr2 (bX12_addProduction_149 rights f (nI m) (nI p) k57) N (b01 b) 0 = k57 (b01 (b && decide (∀ k, k < m → rights (5 * p + k) = f k))) := by
  refine vlp2 (fun j v i => i = nI j ∧ j ≤ m ∧ v = b01 (b && decide (∀ k, k < j → rights (5 * p + k) = f k))) (fun r => r = k57 (b01 (b && decide (∀ k, k < m → rights (5 * p + k) = f k)))) m ?_ ?_ N (b01 b) 0 (by omega) ⟨rfl, Nat.zero_le _, ?_⟩
  · rintro j v i hj ⟨rfl, hb, rfl⟩
    left
    refine ⟨_, nI (j + 1), ⟨rfl, by omega, rfl⟩, fun rc => ?_⟩
    simp only [bX12_addProduction_149, jn_, lt_, nI_1]
    rw [if_neg (nI_ge hj (by omega))]
    have e1 : fX12_symbol rights (nI p) (nI j) = some (rights (5 * p + j)) := by
      simp only [fX12_symbol]
      rw [n5, pk_mul, nI_add, ag_ok (by omega)]
      rfl
    rw [e1, ag_ok (show j < 5 by omega)]
    simp only [obs]
    by_cases h : (b && decide (∀ k, k < j → rights (5 * p + k) = f k)) = true
    · rw [h, if_neg (by decide)]
      rw [Bool.and_eq_true, decide_eq_true_eq] at h
      by_cases hx : rights (5 * p + j) = f j
      · rw [if_pos hx]
        have : (b && decide (∀ k, k < j + 1 → rights (5 * p + k) = f k)) = true := by
          rw [Bool.and_eq_true, decide_eq_true_eq]
          refine ⟨h.1, fun k hk => ?_⟩
          by_cases e : k = j
          · rw [e]; exact hx
          · exact h.2 k (by omega)
        rw [this]; rfl
      · rw [if_neg hx]
        have : (b && decide (∀ k, k < j + 1 → rights (5 * p + k) = f k)) = false := by
          rw [← Bool.not_eq_true, Bool.and_eq_true, decide_eq_true_eq]
          exact fun hh => hx (hh.2 j (by omega))
        rw [this]; rfl
    · have h' : (b && decide (∀ k, k < j → rights (5 * p + k) = f k)) = false := by simpa using h
      rw [h', if_pos (by rfl)]
      have : (b && decide (∀ k, k < j + 1 → rights (5 * p + k) = f k)) = false := by
        rw [← Bool.not_eq_true, Bool.and_eq_true, decide_eq_true_eq]
        intro hh
        refine h ?_
        rw [Bool.and_eq_true, decide_eq_true_eq]
        exact ⟨hh.1, fun k hk => hh.2 k (by omega)⟩
      rw [this]; rfl
  · rintro v i ⟨rfl, hb, rfl⟩
    refine ⟨_, rfl, fun rc => ?_⟩
    simp only [bX12_addProduction_149]
    rw [if_pos (Int32.le_refl _)]
  · congr 1
    have : ∀ k, k < 0 → rights (5 * p + k) = f k := fun k hk => absurd hk (Nat.not_lt_zero _)
    rw [decide_eq_true this, Bool.and_true]
theorem m_putLoop (sizes rights f : Nat → Int32) {m p : Nat} (hm : m ≤ 5) (hp : p < 24) (hs : sizes p = 0) (k33) {N : Nat} (hN : 30 < N) : ∃ s' g', itr3 (bX12_addProduction_252 f (nI m) (nI p) k33) N 0 sizes rights = k33 s' g' ∧ s' p = nI m ∧ (∀ k, k ≠ p → s' k = sizes k) ∧ (∀ i, i < m → g' (5 * p + i) = f i) ∧ ∀ k, k < 5 * p → g' k = rights k := by
  refine vlp3 (fun j i s g => i = nI j ∧ j ≤ m ∧ s p = nI j ∧ (∀ k, k ≠ p → s k = sizes k) ∧ (∀ i, i < j → g (5 * p + i) = f i) ∧ ∀ k, k < 5 * p → g k = rights k) (fun r => ∃ s' g', r = k33 s' g' ∧ s' p = nI m ∧ (∀ k, k ≠ p → s' k = sizes k) ∧ (∀ i, i < m → g' (5 * p + i) = f i) ∧ ∀ k, k < 5 * p → g' k = rights k) m ?_ ?_ N 0 sizes rights (by omega) ⟨rfl, Nat.zero_le _, hs, fun _ _ => rfl, fun i hi => absurd hi (Nat.not_lt_zero _), fun _ _ => rfl⟩
  · rintro j i s g hj ⟨rfl, hb, h1, h2, h3, h4⟩
    left
    refine ⟨nI (j + 1), upd s p (nI (j + 1)), upd g (5 * p + j) (f j), ⟨rfl, by omega, pk_us, fun k hk => ?_, fun i hi => ?_, fun k hk => ?_⟩, fun rc => ?_⟩
    · rw [pk_un hk]; exact h2 k hk
    · by_cases e : i = j
      · subst e; exact pk_us
      · rw [pk_un (by omega)]; exact h3 i (by omega)
    · rw [pk_un (by omega)]; exact h4 k hk
    · simp only [bX12_addProduction_252]
      rw [if_neg (nI_ge hj (by omega)), ag_ok (show j < 5 by omega)]
      simp only [obs, fX12_puts]
      rw [ag_ok hp]
      simp only [obs, h1]
      rw [n5, pk_mul, nI_add, as_ok (show 5 * p + j < 120 by omega)]
      simp only [obs, nI_1]
      rw [as_ok hp]
      simp only [obs, bd2, lt_, nI_1]
  · rintro i s g ⟨rfl, hb, h1, h2, h3, h4⟩
    refine ⟨_, ⟨s, g, rfl, h1, h2, h3, h4⟩, fun rc => ?_⟩
    simp only [bX12_addProduction_252]
    rw [if_pos (Int32.le_refl _)]
