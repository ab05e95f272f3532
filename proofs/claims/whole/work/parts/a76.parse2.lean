/-! THE ARGUMENTS of an added production: one parse, and the reference's way -/
def stO (l : Nat) (f : Nat → Int32) : Nat → Option gP
  | 0 => some (l, [])
  | i + 1 => extO (stO l f i) i (f i)
def wd (f : Nat → Int32) (i : Nat) : List Nat := (List.range i).map fun k => (symI (f k)).getD 0
theorem wd_len (f : Nat → Int32) (i : Nat) : (wd f i).length = i := by unfold wd; simp
theorem wd_S (f : Nat → Int32) (i : Nat) : wd f (i + 1) = wd f i ++ [(symI (f i)).getD 0] := by unfold wd; rw [List.range_succ, List.map_append]; rfl
theorem sy_wd (f : Nat → Int32) {i k : Nat} (h : k < i) : sy (wd f i) k = (symI (f k)).getD 0 := by
  unfold sy wd
  simp [List.getD, h]
theorem symI_m1 : symI (-1) = none := by decide
theorem stO_lead (l : Nat) (f : Nat → Int32) : ∀ i, (∀ k, k < i → (symI (f k)).isSome = true) → stO l f i = some (l, wd f i)
  | 0, _ => rfl
  | i + 1, h => by
    have ih := stO_lead l f i (fun k hk => h k (by omega))
    have hi := h i (by omega)
    show extO (stO l f i) i (f i) = _
    rw [ih]
    unfold extO
    simp only
    rw [if_neg (by intro e; rw [e, symI_m1] at hi; exact absurd hi (by decide)), wd_S]
    cases e : symI (f i) with
    | none => rw [e] at hi; exact absurd hi (by decide)
    | some s =>
      simp only [wd_len]
      rw [if_pos trivial]
      rfl
theorem stO_rest (l : Nat) (f : Nat → Int32) {m : Nat} (h : ∀ k, k < m → (symI (f k)).isSome = true) (hm : symI (f m) = none) : ∀ d, ((∀ k, m ≤ k → k < m + d → f k = -1) → stO l f (m + d) = some (l, wd f m)) ∧ ((¬ ∀ k, m ≤ k → k < m + d → f k = -1) → stO l f (m + d) = none)
  | 0 => ⟨fun _ => stO_lead l f m h, fun hn => absurd (fun k h1 h2 => by omega) hn⟩
  | d + 1 => by
    obtain ⟨i1, i2⟩ := stO_rest l f h hm d
    have es : stO l f (m + (d + 1)) = extO (stO l f (m + d)) (m + d) (f (m + d)) := rfl
    constructor
    · intro ha
      rw [es, i1 (fun k h1 h2 => ha k h1 (by omega)), ha (m + d) (by omega) (by omega)]
      unfold extO
      simp only
      rw [if_pos trivial]
    · intro hn
      by_cases ha : ∀ k, m ≤ k → k < m + d → f k = -1
      · have hx : ¬ f (m + d) = -1 := fun hx => hn fun k h1 h2 => by
          by_cases e : k = m + d
          · rw [e]; exact hx
          · exact ha k h1 (by omega)
        rw [es, i1 ha]
        unfold extO
        simp only
        rw [if_neg hx]
        cases e : symI (f (m + d)) with
        | none => rfl
        | some s =>
          simp only [wd_len]
          rw [if_neg (by
            intro h0
            have : d = 0 := by omega
            subst this
            rw [Nat.add_zero, hm] at e
            exact absurd e (by simp))]
      · rw [es, i2 ha]
        rfl
theorem m_in17 (x : Int32) : fX12_in x 10 17 = some (b01 (inI x 18 && !inI x 10)) := by
  simp only [fX12_in, jn_, gz]
  by_cases h10 : inI x 10 = true
  · obtain ⟨j, hj, rfl⟩ := inI_of (by decide) h10
    rw [h10, if_pos (ltL 10 10 hj)]
    simp [b01]
  · by_cases h18 : inI x 18 = true
    · obtain ⟨j, hj, rfl⟩ := inI_of (by decide) h18
      have h : 10 ≤ j := by
        by_cases h : j < 10
        · exact absurd (inI_nI h (by decide)) h10
        · omega
      rw [h18, if_neg (nltL 10 10 h (by omega)), if_neg (show ¬ (17 : Int32) < nI j from nI_nlt (show j ≤ 17 by omega) (by decide))]
      have : inI (nI j) 10 = false := by simpa using h10
      rw [this]
      simp [b01]
    · have h18' : inI x 18 = false := by simpa using h18
      rw [h18']
      rcases inI_not (by decide) h18 with h | h
      · rw [if_pos (Int32.lt_trans h (by decide))]; simp [b01]
      · have h17 : (17 : Int32) < x := Int32.lt_of_lt_of_le (by decide) h
        by_cases h0 : x < 10
        · rw [if_pos h0]; simp [b01]
        · rw [if_neg h0, if_pos h17]; simp [b01]
theorem m_isSymbol (x : Int32) : fX12_isSymbol x = some (b01 (symI x).isSome) := by
  have e7 : (nI 8 : Int32) - 1 = 7 := by decide
  have h7 := m_in x (n := 8) (by decide)
  rw [e7] at h7
  simp only [fX12_isSymbol, h7, m_in17, obs, jn_]
  unfold symI gz
  cases inI x 8 <;> cases inI x 18 <;> cases inI x 10 <;> simp [b01]
/-- the leading symbols: their number -/
theorem lead_ex (f : Nat → Int32) : ∀ n, ∃ m, m ≤ n ∧ (∀ k, k < m → (symI (f k)).isSome = true) ∧ (m < n → symI (f m) = none)
  | 0 => ⟨0, Nat.le_refl _, fun k hk => absurd hk (Nat.not_lt_zero _), fun h => absurd h (Nat.not_lt_zero _)⟩
  | n + 1 => by
    obtain ⟨m, h1, h2, h3⟩ := lead_ex f n
    by_cases hm : m < n
    · exact ⟨m, by omega, h2, fun _ => h3 hm⟩
    · have : m = n := by omega
      subst this
      cases e : symI (f m) with
      | none => exact ⟨m, by omega, h2, fun _ => e⟩
      | some s =>
        refine ⟨m + 1, Nat.le_refl _, fun k hk => ?_, fun h => absurd h (Nat.lt_irrefl _)⟩
        by_cases hk' : k < m
        · exact h2 k hk'
        · have : k = m := by omega
          subst this
          rw [e]; rfl
theorem m_lead (f : Nat → Int32) {m : Nat} (hm5 : m ≤ 5) (h : ∀ k, k < m → (symI (f k)).isSome = true) (hm : m < 5 → symI (f m) = none) (k80) {N : Nat} (hN : 30 < N) : itr (bX12_addProduction_41 f k80) N 0 = k80 (nI m) := by
  refine vlp1 (fun j v => v = nI j ∧ j ≤ m) (fun r => r = k80 (nI m)) m ?_ ?_ N 0 (by omega) ⟨rfl, Nat.zero_le _⟩
  · rintro j v hj ⟨rfl, _⟩
    left
    refine ⟨nI (j + 1), ⟨rfl, by omega⟩, fun rc => ?_⟩
    simp only [bX12_addProduction_41]
    rw [if_neg (nleL 5 5 (by omega)), ag_ok (show j < 5 by omega)]
    simp only [obs, m_isSymbol, h j hj, lt_, nI_1]
    rw [if_neg (by decide)]
  · rintro v ⟨rfl, _⟩
    refine ⟨_, rfl, fun rc => ?_⟩
    simp only [bX12_addProduction_41]
    by_cases h5 : m < 5
    · rw [if_neg (nleL 5 5 h5), ag_ok h5]
      simp only [obs, m_isSymbol, hm h5]
      rw [if_pos (by rfl)]
    · rw [if_pos (leL 5 5 (by omega) (by omega))]
