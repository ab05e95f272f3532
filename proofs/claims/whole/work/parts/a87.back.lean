/-! THE REFERENCE'S past rows: laid back -/
theorem m_backR {d : Nat} (hd : d < 10) (rights pg : Nat → Int32) (K) {N : Nat} (hN : 130 < N) : ∃ g', itr2 (bX12_laysBack_60 (nI d) pg K) N 0 rights = K g' ∧ ∀ k, k < 120 → g' k = pg (120 * d + k) := by
  refine vlp2 (fun j i g => i = nI j ∧ j ≤ 120 ∧ ∀ k, k < j → g k = pg (120 * d + k)) (fun r => ∃ g', r = K g' ∧ ∀ k, k < 120 → g' k = pg (120 * d + k)) 120 ?_ ?_ N 0 rights (by omega) ⟨rfl, by omega, fun k hk => absurd hk (Nat.not_lt_zero _)⟩
  · rintro j i g hj ⟨rfl, _, h1⟩
    left
    refine ⟨nI (j + 1), upd g j (pg (120 * d + j)), ⟨rfl, by omega, fun k hk => ?_⟩, fun rc => ?_⟩
    · by_cases e : k = j
      · subst e; exact pk_us
      · rw [pk_un e]; exact h1 k (by omega)
    · have n120 : (120 : Int32) = nI 120 := rfl
      simp only [bX12_laysBack_60]
      rw [if_neg (nleL 120 120 hj), n120, pk_mul, nI_add, ag_ok (by omega)]
      simp only [obs]
      rw [as_ok hj]
      simp only [obs, lt_, nI_1]
  · rintro i g ⟨rfl, _, h1⟩
    refine ⟨_, ⟨g, rfl, h1⟩, fun rc => ?_⟩
    simp only [bX12_laysBack_60]
    rw [if_pos (by decide)]
