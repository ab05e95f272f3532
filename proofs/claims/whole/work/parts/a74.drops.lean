/-! THE REFERENCE'S rows: dropped, opened, put -/
section DR
variable {rules : Int32} {lefts sizes rights : Nat → Int32} {G : List gP}
theorem m_drops (hM : RM rules lefts sizes rights G) (hG : okG G) {p : Nat} (hp : p < G.length) {N : Nat} (hN : 30 < N) : ∃ r' l' s' g', fX12_drops N rules lefts sizes rights (nI p) = some (r', l', s', g') ∧ RM r' l' s' g' (G.eraseIdx p) := by
  have hl := hG.1
  have hlen : (G.eraseIdx p).length = G.length - 1 := List.length_eraseIdx_of_lt hp
  have er : rules - (1 : Int32) = nI (G.length - 1) := by rw [hM.1, nI_sub1 (by omega)]
  simp only [fX12_drops, jn3, er]
  refine vlp4 (fun j i l s g => i = nI (p + j) ∧ p + j ≤ G.length - 1 ∧ (∀ k, k < p + j → k < G.length - 1 → (l k = nI (gp (G.eraseIdx p) k).1 ∧ s k = nI (gp (G.eraseIdx p) k).2.length ∧ ∀ i, i < (gp (G.eraseIdx p) k).2.length → g (5 * k + i) = nI (sy (gp (G.eraseIdx p) k).2 i))) ∧ (∀ k, p + j ≤ k → l k = lefts k ∧ s k = sizes k ∧ ∀ i, i < 5 → g (5 * k + i) = rights (5 * k + i))) (fun r => ∃ r' l' s' g', r = some (r', l', s', g') ∧ RM r' l' s' g' (G.eraseIdx p)) (G.length - 1 - p) ?_ ?_ N _ lefts sizes rights (by omega) ⟨rfl, by omega, fun k h1 h2 => ?_, fun k _ => ⟨rfl, rfl, fun _ _ => rfl⟩⟩
  · rintro j i l s g hj ⟨rfl, hb, h1, h2⟩
    left
    obtain ⟨g', hg'⟩ : ∃ g', g' = dropR (p + j) 5 g := ⟨_, rfl⟩
    have e2 : ∀ i, i < 5 → g' (5 * (p + j) + i) = g (5 * (p + j + 1) + i) := fun i hi => by
      rw [hg']; unfold dropR; rw [if_pos (by omega)]; congr 1; omega
    have e3 : ∀ k, (k < 5 * (p + j) ∨ 5 * (p + j) + 5 ≤ k) → g' k = g k := fun k hk => by
      rw [hg']; unfold dropR; rw [if_neg (by omega)]
    obtain ⟨a1, a2, a3⟩ := h2 (p + j + 1) (by omega)
    obtain ⟨b1, b2, b3⟩ := hM.2 (p + j + 1) (by omega)
    have eg : gp (G.eraseIdx p) (p + j) = gp G (p + j + 1) := by rw [gp_erase, if_neg (by omega)]
    have h5 := (okG_gp hG (show p + j + 1 < G.length by omega)).2.1
    refine ⟨nI (p + (j + 1)), upd l (p + j) (lefts (p + j + 1)), upd s (p + j) (sizes (p + j + 1)), g', ⟨rfl, by omega, fun k hk1 hk2 => ?_, fun k hk => ?_⟩, fun rc => ?_⟩
    · by_cases e : k = p + j
      · subst e
        rw [pk_us, pk_us, eg]
        refine ⟨b1, b2, fun i hi => ?_⟩
        rw [e2 i (by omega), a3 i (by omega), b3 i hi]
      · obtain ⟨c1, c2, c3⟩ := h1 k (by omega) hk2
        rw [pk_un e, pk_un e]
        refine ⟨c1, c2, fun i hi => ?_⟩
        have h5' := (okG_gp (okG_erase hG p) (show k < (G.eraseIdx p).length by omega)).2.1
        rw [e3 _ (by omega), c3 i hi]
    · obtain ⟨c1, c2, c3⟩ := h2 k (by omega)
      rw [pk_un (by omega), pk_un (by omega)]
      exact ⟨c1, c2, fun i hi => by rw [e3 _ (by omega), c3 i hi]⟩
    · simp only [bX12_drops_2]
      rw [er, if_neg (nI_ge (by omega) (by omega)), nI_1, ag_ok (show p + j + 1 < 24 by omega)]
      simp only [obs]
      rw [as_ok (show p + j < 24 by omega)]
      simp only [obs]
      rw [ag_ok (show p + j + 1 < 24 by omega)]
      simp only [obs]
      rw [as_ok (show p + j < 24 by omega)]
      simp only [obs, jn_, lt_, nI_1]
      rw [m_dropRow (by omega) g _ hN, a1, a2, ← hg']
      rfl
  · rintro i l s g ⟨rfl, hb, h1, h2⟩
    have e : p + (G.length - 1 - p) = G.length - 1 := by omega
    refine ⟨_, ⟨nI (G.length - 1), l, s, g, rfl, by rw [hlen], fun k hk => ?_⟩, fun rc => ?_⟩
    · exact h1 k (by omega) (by omega)
    · simp only [bX12_drops_2]
      rw [e, er, if_pos (Int32.le_refl _)]
      rfl
  · have eg : gp (G.eraseIdx p) k = gp G k := by rw [gp_erase, if_pos (by omega)]
    rw [eg]
    exact hM.2 k (by omega)
end DR
