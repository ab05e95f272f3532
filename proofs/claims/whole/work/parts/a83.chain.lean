/-! THE CLASS'S parse of the five arguments is the reference's -/
theorem okO_st {l : Nat} (hl : l < 8) (f : Nat → Int32) : ∀ i, i ≤ 5 → okO (stO l f i)
  | 0, _ => fun q hq => by
    injection hq with hq
    subst hq
    exact ⟨hl, Nat.zero_le _, fun s hs => absurd hs (by simp)⟩
  | i + 1, h => okO_ext (okO_st hl f i (by omega)) (by omega) (f i)
theorem c_step {l : Nat} (hl : l < 8) (f : Nat → Int32) {i : Nat} (hi : i < 5) : fX6_extendedByArgument (encO (stO l f i)) (nI i) (f i) = some (encO (stO l f (i + 1))) := c_byArg (okO_st hl f i (by omega)) hi (f i)
theorem par_cases {l : Nat} (f : Nat → Int32) : ∃ m, m ≤ 5 ∧ (∀ k, k < m → (symI (f k)).isSome = true) ∧ (m < 5 → symI (f m) = none) ∧ (((∀ k, m ≤ k → k < 5 → f k = -1) ∧ stO l f 5 = some (l, wd f m)) ∨ ((¬ ∀ k, m ≤ k → k < 5 → f k = -1) ∧ stO l f 5 = none)) := by
  obtain ⟨m, h1, h2, h3⟩ := lead_ex f 5
  refine ⟨m, h1, h2, h3, ?_⟩
  by_cases h5 : m < 5
  · obtain ⟨i1, i2⟩ := stO_rest l f h2 (h3 h5) (5 - m)
    have e : m + (5 - m) = 5 := by omega
    rw [e] at i1 i2
    by_cases ha : ∀ k, m ≤ k → k < 5 → f k = -1
    · exact Or.inl ⟨ha, i1 ha⟩
    · exact Or.inr ⟨ha, i2 ha⟩
  · have : m = 5 := by omega
    subst this
    exact Or.inl ⟨fun k a b => by omega, stO_lead l f 5 h2⟩
