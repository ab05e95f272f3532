/-! THE REFERENCE'S past rows: laid -/
theorem m_laysR {d : Nat} (hd : d < 10) (rights pg : Nat → Int32) (K) {N : Nat} (hN : 130 < N) : ∃ g', itr2 (bX12_lays_60 (nI d) rights K) N 0 pg = K g' ∧ (∀ k, k < 120 → g' (120 * d + k) = rights k) ∧ ∀ k, (k < 120 * d ∨ 120 * d + 120 ≤ k) → g' k = pg k := by
  refine vlp2 (fun j i g => i = nI j ∧ j ≤ 120 ∧ (∀ k, k < j → g (120 * d + k) = rights k) ∧ ∀ k, (k < 120 * d ∨ 120 * d + j ≤ k) → g k = pg k) (fun r => ∃ g', r = K g' ∧ (∀ k, k < 120 → g' (120 * d + k) = rights k) ∧ ∀ k, (k < 120 * d ∨ 120 * d + 120 ≤ k) → g' k = pg k) 120 ?_ ?_ N 0 pg (by omega) ⟨rfl, by omega, fun k hk => absurd hk (Nat.not_lt_zero _), fun _ _ => rfl⟩
  · rintro j i g hj ⟨rfl, _, h1, h2⟩
    left
    refine ⟨nI (j + 1), upd g (120 * d + j) (rights j), ⟨rfl, by omega, fun k hk => ?_, fun k hk => ?_⟩, fun rc => ?_⟩
    · by_cases e : k = j
      · subst e; exact pk_us
      · rw [pk_un (by omega)]; exact h1 k (by omega)
    · rw [pk_un (by omega)]; exact h2 k (by omega)
    · have n120 : (120 : Int32) = nI 120 := rfl
      simp only [bX12_lays_60]
      rw [if_neg (nleL 120 120 hj), ag_ok hj]
      simp only [obs]
      rw [n120, pk_mul, nI_add, as_ok (by omega)]
      simp only [obs, lt_, nI_1]
  · rintro i g ⟨rfl, _, h1, h2⟩
    refine ⟨_, ⟨g, rfl, h1, h2⟩, fun rc => ?_⟩
    simp only [bX12_lays_60]
    rw [if_pos (by decide)]
theorem m_laysL {d : Nat} (hd : d < 10) (lefts sizes pl ps : Nat → Int32) (K) {N : Nat} (hN : 130 < N) : ∃ f' s', itr3 (bX12_lays_12 (nI d) lefts sizes K) N 0 pl ps = K f' s' ∧ (∀ k, k < 24 → f' (24 * d + k) = lefts k ∧ s' (24 * d + k) = sizes k) ∧ ∀ k, (k < 24 * d ∨ 24 * d + 24 ≤ k) → f' k = pl k ∧ s' k = ps k := by
  refine vlp3 (fun j i f s => i = nI j ∧ j ≤ 24 ∧ (∀ k, k < j → f (24 * d + k) = lefts k ∧ s (24 * d + k) = sizes k) ∧ ∀ k, (k < 24 * d ∨ 24 * d + j ≤ k) → f k = pl k ∧ s k = ps k) (fun r => ∃ f' s', r = K f' s' ∧ (∀ k, k < 24 → f' (24 * d + k) = lefts k ∧ s' (24 * d + k) = sizes k) ∧ ∀ k, (k < 24 * d ∨ 24 * d + 24 ≤ k) → f' k = pl k ∧ s' k = ps k) 24 ?_ ?_ N 0 pl ps (by omega) ⟨rfl, by omega, fun k hk => absurd hk (Nat.not_lt_zero _), fun _ _ => ⟨rfl, rfl⟩⟩
  · rintro j i f s hj ⟨rfl, _, h1, h2⟩
    left
    refine ⟨nI (j + 1), upd f (24 * d + j) (lefts j), upd s (24 * d + j) (sizes j), ⟨rfl, by omega, fun k hk => ?_, fun k hk => ?_⟩, fun rc => ?_⟩
    · by_cases e : k = j
      · subst e; exact ⟨pk_us, pk_us⟩
      · rw [pk_un (by omega), pk_un (by omega)]; exact h1 k (by omega)
    · rw [pk_un (by omega), pk_un (by omega)]; exact h2 k (by omega)
    · simp only [bX12_lays_12]
      rw [if_neg (nleL 24 24 hj), ag_ok hj]
      simp only [obs]
      rw [n24, pk_mul, nI_add, as_ok (show 24 * d + j < 240 by omega)]
      simp only [obs]
      rw [ag_ok hj]
      simp only [obs]
      rw [as_ok (show 24 * d + j < 240 by omega)]
      simp only [obs, lt_, nI_1]
  · rintro i f s ⟨rfl, _, h1, h2⟩
    refine ⟨_, ⟨f, s, rfl, h1, h2⟩, fun rc => ?_⟩
    simp only [bX12_lays_12]
    rw [if_pos (by decide)]
