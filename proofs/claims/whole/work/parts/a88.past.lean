/-! THE REFERENCE'S past rows: laid back, moved; one row as a grammar -/
def PRow (pr pl ps pg : Nat → Int32) (d : Nat) (G : List gP) : Prop := RM (pr d) (fun k => pl (24 * d + k)) (fun k => ps (24 * d + k)) (fun k => pg (120 * d + k)) G
theorem RM_congr {r r' : Int32} {l l' s s' g g' : Nat → Int32} {G : List gP} (h : RM r l s g G) (hG : okG G) (er : r' = r) (el : ∀ k, k < 24 → l' k = l k ∧ s' k = s k) (eg : ∀ k, k < 120 → g' k = g k) : RM r' l' s' g' G := by
  have hl := hG.1
  refine ⟨by rw [er]; exact h.1, fun p hp => ?_⟩
  have h5 := (okG_gp hG hp).2.1
  obtain ⟨a, b, c⟩ := h.2 p hp
  refine ⟨by rw [(el p (by omega)).1]; exact a, by rw [(el p (by omega)).2]; exact b, fun i hi => ?_⟩
  rw [eg _ (by omega)]
  exact c i hi
theorem m_backL {d : Nat} (hd : d < 10) (lefts sizes pl ps : Nat → Int32) (K) {N : Nat} (hN : 130 < N) : ∃ f' s', itr3 (bX12_laysBack_12 (nI d) pl ps K) N 0 lefts sizes = K f' s' ∧ ∀ k, k < 24 → f' k = pl (24 * d + k) ∧ s' k = ps (24 * d + k) := by
  refine vlp3 (fun j i f s => i = nI j ∧ j ≤ 24 ∧ ∀ k, k < j → f k = pl (24 * d + k) ∧ s k = ps (24 * d + k)) (fun r => ∃ f' s', r = K f' s' ∧ ∀ k, k < 24 → f' k = pl (24 * d + k) ∧ s' k = ps (24 * d + k)) 24 ?_ ?_ N 0 lefts sizes (by omega) ⟨rfl, by omega, fun k hk => absurd hk (Nat.not_lt_zero _)⟩
  · rintro j i f s hj ⟨rfl, _, h1⟩
    left
    refine ⟨nI (j + 1), upd f j (pl (24 * d + j)), upd s j (ps (24 * d + j)), ⟨rfl, by omega, fun k hk => ?_⟩, fun rc => ?_⟩
    · by_cases e : k = j
      · subst e; exact ⟨pk_us, pk_us⟩
      · rw [pk_un e, pk_un e]; exact h1 k (by omega)
    · simp only [bX12_laysBack_12]
      rw [if_neg (nleL 24 24 hj), n24, pk_mul, nI_add, ag_ok (show 24 * d + j < 240 by omega)]
      simp only [obs]
      rw [as_ok hj]
      simp only [obs]
      rw [ag_ok (show 24 * d + j < 240 by omega)]
      simp only [obs]
      rw [as_ok hj]
      simp only [obs, lt_, nI_1]
  · rintro i f s ⟨rfl, _, h1⟩
    refine ⟨_, ⟨f, s, rfl, h1⟩, fun rc => ?_⟩
    simp only [bX12_laysBack_12]
    rw [if_pos (by decide)]
theorem m_movR {d : Nat} (hd : d < 9) (pg : Nat → Int32) (K) {N : Nat} (hN : 130 < N) : ∃ g', itr2 (bX12_moves_78 (nI (d + 1)) K) N 0 pg = K g' ∧ (∀ k, k < 120 → g' (120 * d + k) = pg (120 * (d + 1) + k)) ∧ ∀ k, (k < 120 * d ∨ 120 * d + 120 ≤ k) → g' k = pg k := by
  refine vlp2 (fun j i g => i = nI j ∧ j ≤ 120 ∧ (∀ k, k < j → g (120 * d + k) = pg (120 * (d + 1) + k)) ∧ ∀ k, (k < 120 * d ∨ 120 * d + j ≤ k) → g k = pg k) (fun r => ∃ g', r = K g' ∧ (∀ k, k < 120 → g' (120 * d + k) = pg (120 * (d + 1) + k)) ∧ ∀ k, (k < 120 * d ∨ 120 * d + 120 ≤ k) → g' k = pg k) 120 ?_ ?_ N 0 pg (by omega) ⟨rfl, by omega, fun k hk => absurd hk (Nat.not_lt_zero _), fun _ _ => rfl⟩
  · rintro j i g hj ⟨rfl, _, h1, h2⟩
    left
    refine ⟨nI (j + 1), upd g (120 * d + j) (pg (120 * (d + 1) + j)), ⟨rfl, by omega, fun k hk => ?_, fun k hk => ?_⟩, fun rc => ?_⟩
    · by_cases e : k = j
      · subst e; exact pk_us
      · rw [pk_un (by omega)]; exact h1 k (by omega)
    · rw [pk_un (by omega)]; exact h2 k (by omega)
    · have n120 : (120 : Int32) = nI 120 := rfl
      simp only [bX12_moves_78]
      rw [if_neg (nleL 120 120 hj), nI_sub1 (by omega), Nat.add_sub_cancel, n120, pk_mul, nI_add, ag_ok (by omega)]
      simp only [obs]
      rw [pk_mul, nI_add, as_ok (by omega), h2 _ (by omega)]
      simp only [obs, lt_, nI_1]
  · rintro i g ⟨rfl, _, h1, h2⟩
    refine ⟨_, ⟨g, rfl, h1, h2⟩, fun rc => ?_⟩
    simp only [bX12_moves_78]
    rw [if_pos (by decide)]
theorem m_movL {d : Nat} (hd : d < 9) (pl ps : Nat → Int32) (K) {N : Nat} (hN : 130 < N) : ∃ f' s', itr3 (bX12_moves_16 (nI (d + 1)) K) N 0 pl ps = K f' s' ∧ (∀ k, k < 24 → f' (24 * d + k) = pl (24 * (d + 1) + k) ∧ s' (24 * d + k) = ps (24 * (d + 1) + k)) ∧ ∀ k, (k < 24 * d ∨ 24 * d + 24 ≤ k) → f' k = pl k ∧ s' k = ps k := by
  refine vlp3 (fun j i f s => i = nI j ∧ j ≤ 24 ∧ (∀ k, k < j → f (24 * d + k) = pl (24 * (d + 1) + k) ∧ s (24 * d + k) = ps (24 * (d + 1) + k)) ∧ ∀ k, (k < 24 * d ∨ 24 * d + j ≤ k) → f k = pl k ∧ s k = ps k) (fun r => ∃ f' s', r = K f' s' ∧ (∀ k, k < 24 → f' (24 * d + k) = pl (24 * (d + 1) + k) ∧ s' (24 * d + k) = ps (24 * (d + 1) + k)) ∧ ∀ k, (k < 24 * d ∨ 24 * d + 24 ≤ k) → f' k = pl k ∧ s' k = ps k) 24 ?_ ?_ N 0 pl ps (by omega) ⟨rfl, by omega, fun k hk => absurd hk (Nat.not_lt_zero _), fun _ _ => ⟨rfl, rfl⟩⟩
  · rintro j i f s hj ⟨rfl, _, h1, h2⟩
    left
    refine ⟨nI (j + 1), upd f (24 * d + j) (pl (24 * (d + 1) + j)), upd s (24 * d + j) (ps (24 * (d + 1) + j)), ⟨rfl, by omega, fun k hk => ?_, fun k hk => ?_⟩, fun rc => ?_⟩
    · by_cases e : k = j
      · subst e; exact ⟨pk_us, pk_us⟩
      · rw [pk_un (by omega), pk_un (by omega)]; exact h1 k (by omega)
    · rw [pk_un (by omega), pk_un (by omega)]; exact h2 k (by omega)
    · have e1 := (h2 (24 * (d + 1) + j) (by omega)).1
      have e2 := (h2 (24 * (d + 1) + j) (by omega)).2
      simp only [bX12_moves_16]
      rw [if_neg (nleL 24 24 hj), nI_sub1 (by omega), Nat.add_sub_cancel, n24, pk_mul, nI_add, ag_ok (show 24 * (d + 1) + j < 240 by omega)]
      simp only [obs]
      rw [pk_mul, nI_add, as_ok (show 24 * d + j < 240 by omega)]
      simp only [obs]
      rw [ag_ok (show 24 * (d + 1) + j < 240 by omega)]
      simp only [obs]
      rw [as_ok (show 24 * d + j < 240 by omega), e1, e2]
      simp only [obs, lt_, nI_1]
  · rintro i f s ⟨rfl, _, h1, h2⟩
    refine ⟨_, ⟨f, s, rfl, h1, h2⟩, fun rc => ?_⟩
    simp only [bX12_moves_16]
    rw [if_pos (by decide)]
theorem m_lays {rules : Int32} {lefts sizes rights : Nat → Int32} {G : List gP} (hM : RM rules lefts sizes rights G) (hG : okG G) {d : Nat} (hd : d < 10) (pr pl ps pg : Nat → Int32) {N : Nat} (hN : 130 < N) : ∃ pr' pl' ps' pg', fX12_lays N rules lefts sizes rights pr pl ps pg (nI d) = some (pr', pl', ps', pg') ∧ PRow pr' pl' ps' pg' d G ∧ ∀ d' H, d' ≠ d → okG H → PRow pr pl ps pg d' H → PRow pr' pl' ps' pg' d' H := by
  simp only [fX12_lays, jn2, jn_]
  rw [as_ok hd]
  simp only [obs]
  obtain ⟨f', s', e1, a1, a2⟩ := m_laysL hd lefts sizes pl ps (fun v2 v3 => itr2 (bX12_lays_60 (nI d) rights (fun v4 => some (upd pr d rules, v2, v3, v4))) N 0 pg) hN
  obtain ⟨g', e2, b1, b2⟩ := m_laysR hd rights pg (fun v4 => some (upd pr d rules, f', s', v4)) hN
  refine ⟨_, _, _, _, by rw [e1, e2], ?_, fun d' H hne hH hr => ?_⟩
  · exact RM_congr hM hG pk_us (fun k hk => a1 k hk) (fun k hk => b1 k hk)
  · exact RM_congr hr hH (pk_un hne) (fun k hk => a2 _ (by omega)) (fun k hk => b2 _ (by omega))
theorem m_laysBack {G : List gP} (hG : okG G) {d : Nat} (hd : d < 10) {pr pl ps pg : Nat → Int32} (h : PRow pr pl ps pg d G) (rules : Int32) (lefts sizes rights : Nat → Int32) {N : Nat} (hN : 130 < N) : ∃ r' l' s' g', fX12_laysBack N rules lefts sizes rights pr pl ps pg (nI d) = some (r', l', s', g') ∧ RM r' l' s' g' G := by
  simp only [fX12_laysBack, jn2, jn_]
  rw [ag_ok hd]
  simp only [obs]
  obtain ⟨f', s', e1, a1⟩ := m_backL hd lefts sizes pl ps (fun v2 v3 => itr2 (bX12_laysBack_60 (nI d) pg (fun v4 => some (pr d, v2, v3, v4))) N 0 rights) hN
  obtain ⟨g', e2, b1⟩ := m_backR hd rights pg (fun v4 => some (pr d, f', s', v4)) hN
  exact ⟨_, _, _, _, by rw [e1, e2], RM_congr h hG rfl (fun k hk => a1 k hk) (fun k hk => b1 k hk)⟩
theorem m_moves {d : Nat} (hd : d < 9) (pr pl ps pg : Nat → Int32) {N : Nat} (hN : 130 < N) : ∃ pr' pl' ps' pg', fX12_moves N pr pl ps pg (nI (d + 1)) = some (pr', pl', ps', pg') ∧ (∀ H, okG H → PRow pr pl ps pg (d + 1) H → PRow pr' pl' ps' pg' d H) ∧ ∀ d' H, d' ≠ d → okG H → PRow pr pl ps pg d' H → PRow pr' pl' ps' pg' d' H := by
  simp only [fX12_moves, jn2, jn_]
  rw [ag_ok (show d + 1 < 10 by omega)]
  simp only [obs]
  rw [nI_sub1 (by omega), Nat.add_sub_cancel, as_ok (show d < 10 by omega)]
  simp only [obs]
  obtain ⟨f', s', e1, a1, a2⟩ := m_movL hd pl ps (fun v3 v4 => itr2 (bX12_moves_78 (nI (d + 1)) (fun v5 => some (upd pr d (pr (d + 1)), v3, v4, v5))) N 0 pg) hN
  obtain ⟨g', e2, b1, b2⟩ := m_movR hd pg (fun v5 => some (upd pr d (pr (d + 1)), f', s', v5)) hN
  refine ⟨_, _, _, _, by rw [e1, e2], fun H hH hr => ?_, fun d' H hne hH hr => ?_⟩
  · exact RM_congr hr hH pk_us (fun k hk => a1 k hk) (fun k hk => b1 k hk)
  · exact RM_congr hr hH (pk_un hne) (fun k hk => a2 _ (by omega)) (fun k hk => b2 _ (by omega))
