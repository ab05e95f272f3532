/-! THE REFERENCE'S repair: weights, order, copies -/
theorem less_wt {wt : Nat → Nat} (hw : wt9 wt) {t u : List Nat} (ht : okW (some t)) (hu : okW (some u)) : kN wt (some t) < kN wt (some u) ↔ t.length < u.length ∨ (t.length = u.length ∧ (wsum wt t < wsum wt u ∨ (wsum wt t = wsum wt u ∧ valN t < valN u))) := by
  have h := ky_lt_iff wt ⟨some t, ht⟩ ⟨some u, hu⟩
  have b1 := wsum_le hw t ht.1
  have b2 := wsum_le hw u hu.1
  have c1 := ok40 ht
  have c2 := ok40 hu
  simp only [ky, cN, vN] at h
  rw [h]
  omega
theorem m_weighs_trial {wt : Nat → Nat} {cw row : Nat → Int32} (hW : WC cw wt) {t : List Nat} (ht : okW (some t)) {f : Nat} (hf : f + t.length ≤ 40) (hr : ∀ k, k < t.length → row (f + k) = nI (sy t k)) {N : Nat} (hN : 50 < N) : fX12_weighs_trial N row cw (nI f) (nI t.length) = some (nI (wsum wt t)) := by
  have h40 := ok40 ht
  simp only [fX12_weighs_trial, jn_]
  refine vlp2 (B := bX12_weighs_trial_6 (nI f) (nI t.length) row cw fun v1 => some v1) (fun j s i => i = nI j ∧ j ≤ t.length ∧ s = nI (wsum wt (t.take j))) (fun r => r = some (nI (wsum wt t))) t.length ?_ ?_ N 0 0 (by omega) ⟨rfl, Nat.zero_le _, rfl⟩
  · rintro j s i hj ⟨rfl, _, rfl⟩
    left
    have h8 : sy t j < 8 := ht.1 _ (sy_mem hj)
    refine ⟨nI (wsum wt (t.take j) + wt (sy t j)), nI (j + 1), ⟨rfl, by omega, by rw [take_sy hj, wsum_app]; simp [wsum]⟩, fun rc => ?_⟩
    simp only [bX12_weighs_trial_6]
    rw [if_neg (nI_ge hj (by omega)), nI_add, ag_ok (show f + j < 40 by omega)]
    simp only [obs, hr j hj, ag_ok h8, (hW _ h8).1, lt_, nI_add, nI_1]
  · rintro s i ⟨rfl, _, rfl⟩
    refine ⟨_, rfl, fun rc => ?_⟩
    simp only [bX12_weighs_trial_6]
    rw [if_pos (Int32.le_refl _), List.take_length]
theorem m_weighs_partly {wt : Nat → Nat} {cw row : Nat → Int32} (hW : WC cw wt) {t : List Nat} (ht : okW (some t)) {f : Nat} (hf : f + t.length ≤ 2160) (hr : ∀ k, k < t.length → row (f + k) = nI (sy t k)) {N : Nat} (hN : 50 < N) : fX12_weighs_partly N cw row (nI f) (nI t.length) = some (nI (wsum wt t)) := by
  have h40 := ok40 ht
  simp only [fX12_weighs_partly, jn_]
  refine vlp2 (B := bX12_weighs_partly_6 (nI f) (nI t.length) cw row fun v1 => some v1) (fun j s i => i = nI j ∧ j ≤ t.length ∧ s = nI (wsum wt (t.take j))) (fun r => r = some (nI (wsum wt t))) t.length ?_ ?_ N 0 0 (by omega) ⟨rfl, Nat.zero_le _, rfl⟩
  · rintro j s i hj ⟨rfl, _, rfl⟩
    left
    have h8 : sy t j < 8 := ht.1 _ (sy_mem hj)
    refine ⟨nI (wsum wt (t.take j) + wt (sy t j)), nI (j + 1), ⟨rfl, by omega, by rw [take_sy hj, wsum_app]; simp [wsum]⟩, fun rc => ?_⟩
    simp only [bX12_weighs_partly_6]
    rw [if_neg (nI_ge hj (by omega)), nI_add, ag_ok (show f + j < 2160 by omega)]
    simp only [obs, hr j hj, ag_ok h8, (hW _ h8).1, lt_, nI_add, nI_1]
  · rintro s i ⟨rfl, _, rfl⟩
    refine ⟨_, rfl, fun rc => ?_⟩
    simp only [bX12_weighs_partly_6]
    rw [if_pos (Int32.le_refl _), List.take_length]
theorem m_differ_partly {trial row : Nat → Int32} {t u : List Nat} (ht : okW (some t)) (hu : okW (some u)) (hl : t.length = u.length) (hT : ∀ k, k < t.length → trial k = nI (sy t k)) {f : Nat} (hf : f + u.length ≤ 2160) (hr : ∀ k, k < u.length → row (f + k) = nI (sy u k)) (k16 : Int32 → Option Int32) {N : Nat} (hN : 50 < N) : ∃ j, j ≤ t.length ∧ itr (bX12_isLess_partly_77 (nI f) (nI u.length) trial row k16) N 0 = k16 (nI j) ∧ (∀ k, k < j → sy t k = sy u k) ∧ (j < t.length → sy t j ≠ sy u j) := by
  have h40 := ok40 ht
  refine vlp1 (B := bX12_isLess_partly_77 (nI f) (nI u.length) trial row k16) (fun j i => i = nI j ∧ j ≤ t.length ∧ ∀ k, k < j → sy t k = sy u k) (fun r => ∃ j, j ≤ t.length ∧ r = k16 (nI j) ∧ (∀ k, k < j → sy t k = sy u k) ∧ (j < t.length → sy t j ≠ sy u j)) t.length ?_ ?_ N 0 (by omega) ⟨rfl, Nat.zero_le _, fun k hk => absurd hk (Nat.not_lt_zero _)⟩
  · rintro j i hj ⟨rfl, _, h1⟩
    have a8 : sy t j < 8 := ht.1 _ (sy_mem hj)
    have b8 : sy u j < 8 := hu.1 _ (sy_mem (by omega))
    have hstep : ∀ rc, bX12_isLess_partly_77 (nI f) (nI u.length) trial row k16 rc (nI j) = if sy t j = sy u j then rc (nI (j + 1)) else k16 (nI j) := by
      intro rc
      simp only [bX12_isLess_partly_77]
      rw [if_neg (nI_ge (show j < u.length by omega) (by omega)), ag_ok (show j < 40 by omega), nI_add]
      simp only [obs, ag_ok (show f + j < 2160 by omega), hT j hj, hr j (by omega), lt_, nI_1]
      by_cases e : sy t j = sy u j
      · rw [if_pos (by rw [e]), if_pos e]
      · rw [if_neg (by rw [nI_eq (by omega) (by omega)]; exact e), if_neg e]
    by_cases e : sy t j = sy u j
    · left
      refine ⟨nI (j + 1), ⟨rfl, by omega, fun k hk => ?_⟩, fun rc => by rw [hstep, if_pos e]⟩
      by_cases ek : k = j
      · subst ek; exact e
      · exact h1 k (by omega)
    · right
      exact ⟨_, ⟨j, by omega, rfl, h1, fun _ => e⟩, fun rc => by rw [hstep, if_neg e]⟩
  · rintro i ⟨rfl, _, h1⟩
    refine ⟨_, ⟨t.length, Nat.le_refl _, rfl, h1, fun h => absurd h (Nat.lt_irrefl _)⟩, fun rc => ?_⟩
    simp only [bX12_isLess_partly_77]
    rw [if_pos (by rw [hl]; exact Int32.le_refl _)]
theorem m_isLess_partly {wt : Nat → Nat} {cw trial row : Nat → Int32} (hW : WC cw wt) {t : List Nat} {y : wO} (ht : okW (some t)) (hy : okW y) {tl lg : Int32} (hT : TR trial tl (some t)) {f : Nat} (hf : f + 40 ≤ 2160) (hl : lg = lnI y) (hr : ∀ u, y = some u → ∀ k, k < u.length → row (f + k) = nI (sy u k)) {N : Nat} (hN : 50 < N) : fX12_isLess_partly N trial tl cw row (nI f) lg = some (b01 (lessO wt (some t) y)) := by
  have hw := WC_9 hW
  have h40 := ok40 ht
  obtain ⟨t1, t2⟩ := hT
  subst t1 hl
  have htr := t2 t rfl
  cases y with
  | none =>
    rw [lessO_some_none hw ht]
    simp only [fX12_isLess_partly, jn_, gz]
    rw [lnI_none, if_pos (by decide), if_pos (by decide)]
    rfl
  | some u =>
    have h40u := ok40 hy
    have hru := hr u rfl
    have key := less_wt hw ht hy
    have gz1 : ∀ b : Bool, gz (b01 b) (some (b01 b)) = some (b01 b) := fun b => by unfold gz; rw [if_pos (b01_01 b)]
    have hyes : kN wt (some t) < kN wt (some u) → lessO wt (some t) (some u) = true := fun h => by unfold lessO; simp [h]
    have hno : ¬ kN wt (some t) < kN wt (some u) → lessO wt (some t) (some u) = false := fun h => by unfold lessO; simp [h]
    have g0 : gz (0 : Int32) (some (0 : Int32)) = some 0 := by unfold gz; rw [if_pos (Or.inl rfl)]
    have g1 : gz (1 : Int32) (some (1 : Int32)) = some 1 := by unfold gz; rw [if_pos (Or.inr rfl)]
    simp only [fX12_isLess_partly, jn_, g0, g1]
    rw [lnI_some, lnI_some, if_neg (nI_pos (by omega))]
    by_cases heq : t.length = u.length
    · rw [if_pos (by rw [heq])]
      have w1 := m_weighs_trial hW ht (row := trial) (f := 0) (by omega) (fun k hk => by rw [Nat.zero_add]; exact htr k hk) hN
      have w2 := m_weighs_partly hW hy (row := row) (f := f) (by omega) hru hN
      have z0 : (nI 0 : Int32) = 0 := rfl
      rw [z0] at w1
      rw [w1, w2]
      simp only [obs]
      have b1 := wsum_le hw t ht.1
      have b2 := wsum_le hw u hy.1
      by_cases hwe : wsum wt t = wsum wt u
      · rw [if_pos (by rw [hwe])]
        obtain ⟨j, j1, j2, j3, j4⟩ := m_differ_partly ht hy heq htr (show f + u.length ≤ 2160 by omega) hru (fun v9 => if nI u.length ≤ v9 then some 0 else (ag trial 40 v9).bind fun x14 => (ag row 2160 (nI f + v9)).bind fun x15 => if x15 ≤ x14 then some 0 else some 1) hN
        rw [j2]
        by_cases ej : j = t.length
        · rw [if_pos (by rw [ej, heq]; exact Int32.le_refl _)]
          have : t = u := sy_ext heq (fun k hk => j3 k (by omega))
          subst this
          rw [hno (Nat.lt_irrefl _)]; rfl
        · have hj : j < t.length := by omega
          have a8 : sy t j < 8 := ht.1 _ (sy_mem hj)
          have b8 : sy u j < 8 := hy.1 _ (sy_mem (by omega))
          rw [if_neg (nI_ge (by omega) (by omega)), ag_ok (show j < 40 by omega), nI_add]
          simp only [obs, ag_ok (show f + j < 2160 by omega), htr j hj, hru j (by omega)]
          by_cases hlt : sy t j < sy u j
          · rw [if_neg (nI_ge (by omega) (by omega))]
            have := lex_lt t u j heq ht.1 hy.1 hj j3 hlt
            rw [hyes (key.mpr (Or.inr ⟨heq, Or.inr ⟨hwe, this⟩⟩))]; rfl
          · have hne := j4 hj
            rw [if_pos (nI_le (by omega) (by omega))]
            have := lex_lt u t j heq.symm hy.1 ht.1 (by omega) (fun k hk => (j3 k hk).symm) (by omega)
            rw [hno (by rw [key]; omega)]; rfl
      · rw [if_neg (by rw [nI_eq (by omega) (by omega)]; exact hwe)]
        by_cases hle : wsum wt u ≤ wsum wt t
        · rw [if_pos (nI_le hle (by omega)), hno (by rw [key]; omega)]; rfl
        · rw [if_neg (nI_ge (by omega) (by omega)), hyes (key.mpr (Or.inr ⟨heq, Or.inl (by omega)⟩))]; rfl
    · rw [if_neg (by rw [nI_eq (by omega) (by omega)]; exact heq), if_neg (nI_pos (by omega))]
      by_cases hle : u.length ≤ t.length
      · rw [if_pos (nI_le hle (by omega)), hno (by rw [key]; omega)]; rfl
      · rw [if_neg (nI_ge (by omega) (by omega)), hyes (key.mpr (Or.inl (by omega)))]; rfl
theorem m_copies_partly {trial row : Nat → Int32} {tl : Int32} {x : wO} {u : List Nat} (hx : okW x) (hu : okW (some u)) (hT : TR trial tl x) {f : Nat} (hf : f + u.length ≤ 2160) (hr : ∀ k, k < u.length → row (f + k) = nI (sy u k)) {N : Nat} (hN : 50 < N) : ∃ o : (Nat → Int32) × Int32, fX12_copies_partly N trial tl row (nI f) (nI u.length) = some o ∧ TR o.1 o.2 (cat x (some u)) := by
  have h40 := ok40 hu
  simp only [fX12_copies_partly, jn2]
  refine vlp3 (B := bX12_copies_partly_3 (nI f) (nI u.length) row fun v1 v2 => some (v1, v2)) (fun j i tr tl => i = nI j ∧ j ≤ u.length ∧ TR tr tl (cat x (some (u.take j)))) (fun r => ∃ o : (Nat → Int32) × Int32, r = some o ∧ TR o.1 o.2 (cat x (some u))) u.length ?_ ?_ N 0 trial tl (by omega) ⟨rfl, Nat.zero_le _, by rw [List.take_zero, cat_em_r hx]; exact hT⟩
  · rintro j i tr tl hj ⟨rfl, _, hT1⟩
    left
    obtain ⟨o, e, hT2⟩ := m_adds (cat_ok hx (okW_take hu j)) hT1 (sy u j)
    rw [cat_take_succ h40 hj] at hT2
    refine ⟨nI (j + 1), o.1, o.2, ⟨rfl, by omega, hT2⟩, fun rc => ?_⟩
    simp only [bX12_copies_partly_3]
    rw [if_neg (nI_ge hj (by omega)), nI_add, ag_ok (show f + j < 2160 by omega)]
    simp only [obs, hr j hj, e, bd2, lt_, nI_1]
  · rintro i tr tl ⟨rfl, _, hT1⟩
    rw [List.take_length] at hT1
    refine ⟨_, ⟨(tr, tl), rfl, hT1⟩, fun rc => ?_⟩
    simp only [bX12_copies_partly_3]
    rw [if_pos (Int32.le_refl _)]
theorem m_weighs_bests {wt : Nat → Nat} {cw row : Nat → Int32} (hW : WC cw wt) {t : List Nat} (ht : okW (some t)) {f : Nat} (hf : f + t.length ≤ 25920) (hr : ∀ k, k < t.length → row (f + k) = nI (sy t k)) {N : Nat} (hN : 50 < N) : fX12_weighs_bests N cw row (nI f) (nI t.length) = some (nI (wsum wt t)) := by
  have h40 := ok40 ht
  simp only [fX12_weighs_bests, jn_]
  refine vlp2 (B := bX12_weighs_bests_6 (nI f) (nI t.length) cw row fun v1 => some v1) (fun j s i => i = nI j ∧ j ≤ t.length ∧ s = nI (wsum wt (t.take j))) (fun r => r = some (nI (wsum wt t))) t.length ?_ ?_ N 0 0 (by omega) ⟨rfl, Nat.zero_le _, rfl⟩
  · rintro j s i hj ⟨rfl, _, rfl⟩
    left
    have h8 : sy t j < 8 := ht.1 _ (sy_mem hj)
    refine ⟨nI (wsum wt (t.take j) + wt (sy t j)), nI (j + 1), ⟨rfl, by omega, by rw [take_sy hj, wsum_app]; simp [wsum]⟩, fun rc => ?_⟩
    simp only [bX12_weighs_bests_6]
    rw [if_neg (nI_ge hj (by omega)), nI_add, ag_ok (show f + j < 25920 by omega)]
    simp only [obs, hr j hj, ag_ok h8, (hW _ h8).1, lt_, nI_add, nI_1]
  · rintro s i ⟨rfl, _, rfl⟩
    refine ⟨_, rfl, fun rc => ?_⟩
    simp only [bX12_weighs_bests_6]
    rw [if_pos (Int32.le_refl _), List.take_length]
theorem m_differ_bests {trial row : Nat → Int32} {t u : List Nat} (ht : okW (some t)) (hu : okW (some u)) (hl : t.length = u.length) (hT : ∀ k, k < t.length → trial k = nI (sy t k)) {f : Nat} (hf : f + u.length ≤ 25920) (hr : ∀ k, k < u.length → row (f + k) = nI (sy u k)) (k16 : Int32 → Option Int32) {N : Nat} (hN : 50 < N) : ∃ j, j ≤ t.length ∧ itr (bX12_isLess_bests_77 (nI f) (nI u.length) trial row k16) N 0 = k16 (nI j) ∧ (∀ k, k < j → sy t k = sy u k) ∧ (j < t.length → sy t j ≠ sy u j) := by
  have h40 := ok40 ht
  refine vlp1 (B := bX12_isLess_bests_77 (nI f) (nI u.length) trial row k16) (fun j i => i = nI j ∧ j ≤ t.length ∧ ∀ k, k < j → sy t k = sy u k) (fun r => ∃ j, j ≤ t.length ∧ r = k16 (nI j) ∧ (∀ k, k < j → sy t k = sy u k) ∧ (j < t.length → sy t j ≠ sy u j)) t.length ?_ ?_ N 0 (by omega) ⟨rfl, Nat.zero_le _, fun k hk => absurd hk (Nat.not_lt_zero _)⟩
  · rintro j i hj ⟨rfl, _, h1⟩
    have a8 : sy t j < 8 := ht.1 _ (sy_mem hj)
    have b8 : sy u j < 8 := hu.1 _ (sy_mem (by omega))
    have hstep : ∀ rc, bX12_isLess_bests_77 (nI f) (nI u.length) trial row k16 rc (nI j) = if sy t j = sy u j then rc (nI (j + 1)) else k16 (nI j) := by
      intro rc
      simp only [bX12_isLess_bests_77]
      rw [if_neg (nI_ge (show j < u.length by omega) (by omega)), ag_ok (show j < 40 by omega), nI_add]
      simp only [obs, ag_ok (show f + j < 25920 by omega), hT j hj, hr j (by omega), lt_, nI_1]
      by_cases e : sy t j = sy u j
      · rw [if_pos (by rw [e]), if_pos e]
      · rw [if_neg (by rw [nI_eq (by omega) (by omega)]; exact e), if_neg e]
    by_cases e : sy t j = sy u j
    · left
      refine ⟨nI (j + 1), ⟨rfl, by omega, fun k hk => ?_⟩, fun rc => by rw [hstep, if_pos e]⟩
      by_cases ek : k = j
      · subst ek; exact e
      · exact h1 k (by omega)
    · right
      exact ⟨_, ⟨j, by omega, rfl, h1, fun _ => e⟩, fun rc => by rw [hstep, if_neg e]⟩
  · rintro i ⟨rfl, _, h1⟩
    refine ⟨_, ⟨t.length, Nat.le_refl _, rfl, h1, fun h => absurd h (Nat.lt_irrefl _)⟩, fun rc => ?_⟩
    simp only [bX12_isLess_bests_77]
    rw [if_pos (by rw [hl]; exact Int32.le_refl _)]
theorem m_isLess_bests {wt : Nat → Nat} {cw trial row : Nat → Int32} (hW : WC cw wt) {t : List Nat} {y : wO} (ht : okW (some t)) (hy : okW y) {tl lg : Int32} (hT : TR trial tl (some t)) {f : Nat} (hf : f + 40 ≤ 25920) (hl : lg = lnI y) (hr : ∀ u, y = some u → ∀ k, k < u.length → row (f + k) = nI (sy u k)) {N : Nat} (hN : 50 < N) : fX12_isLess_bests N trial tl cw row (nI f) lg = some (b01 (lessO wt (some t) y)) := by
  have hw := WC_9 hW
  have h40 := ok40 ht
  obtain ⟨t1, t2⟩ := hT
  subst t1 hl
  have htr := t2 t rfl
  cases y with
  | none =>
    rw [lessO_some_none hw ht]
    simp only [fX12_isLess_bests, jn_, gz]
    rw [lnI_none, if_pos (by decide), if_pos (by decide)]
    rfl
  | some u =>
    have h40u := ok40 hy
    have hru := hr u rfl
    have key := less_wt hw ht hy
    have gz1 : ∀ b : Bool, gz (b01 b) (some (b01 b)) = some (b01 b) := fun b => by unfold gz; rw [if_pos (b01_01 b)]
    have hyes : kN wt (some t) < kN wt (some u) → lessO wt (some t) (some u) = true := fun h => by unfold lessO; simp [h]
    have hno : ¬ kN wt (some t) < kN wt (some u) → lessO wt (some t) (some u) = false := fun h => by unfold lessO; simp [h]
    have g0 : gz (0 : Int32) (some (0 : Int32)) = some 0 := by unfold gz; rw [if_pos (Or.inl rfl)]
    have g1 : gz (1 : Int32) (some (1 : Int32)) = some 1 := by unfold gz; rw [if_pos (Or.inr rfl)]
    simp only [fX12_isLess_bests, jn_, g0, g1]
    rw [lnI_some, lnI_some, if_neg (nI_pos (by omega))]
    by_cases heq : t.length = u.length
    · rw [if_pos (by rw [heq])]
      have w1 := m_weighs_trial hW ht (row := trial) (f := 0) (by omega) (fun k hk => by rw [Nat.zero_add]; exact htr k hk) hN
      have w2 := m_weighs_bests hW hy (row := row) (f := f) (by omega) hru hN
      have z0 : (nI 0 : Int32) = 0 := rfl
      rw [z0] at w1
      rw [w1, w2]
      simp only [obs]
      have b1 := wsum_le hw t ht.1
      have b2 := wsum_le hw u hy.1
      by_cases hwe : wsum wt t = wsum wt u
      · rw [if_pos (by rw [hwe])]
        obtain ⟨j, j1, j2, j3, j4⟩ := m_differ_bests ht hy heq htr (show f + u.length ≤ 25920 by omega) hru (fun v9 => if nI u.length ≤ v9 then some 0 else (ag trial 40 v9).bind fun x14 => (ag row 25920 (nI f + v9)).bind fun x15 => if x15 ≤ x14 then some 0 else some 1) hN
        rw [j2]
        by_cases ej : j = t.length
        · rw [if_pos (by rw [ej, heq]; exact Int32.le_refl _)]
          have : t = u := sy_ext heq (fun k hk => j3 k (by omega))
          subst this
          rw [hno (Nat.lt_irrefl _)]; rfl
        · have hj : j < t.length := by omega
          have a8 : sy t j < 8 := ht.1 _ (sy_mem hj)
          have b8 : sy u j < 8 := hy.1 _ (sy_mem (by omega))
          rw [if_neg (nI_ge (by omega) (by omega)), ag_ok (show j < 40 by omega), nI_add]
          simp only [obs, ag_ok (show f + j < 25920 by omega), htr j hj, hru j (by omega)]
          by_cases hlt : sy t j < sy u j
          · rw [if_neg (nI_ge (by omega) (by omega))]
            have := lex_lt t u j heq ht.1 hy.1 hj j3 hlt
            rw [hyes (key.mpr (Or.inr ⟨heq, Or.inr ⟨hwe, this⟩⟩))]; rfl
          · have hne := j4 hj
            rw [if_pos (nI_le (by omega) (by omega))]
            have := lex_lt u t j heq.symm hy.1 ht.1 (by omega) (fun k hk => (j3 k hk).symm) (by omega)
            rw [hno (by rw [key]; omega)]; rfl
      · rw [if_neg (by rw [nI_eq (by omega) (by omega)]; exact hwe)]
        by_cases hle : wsum wt u ≤ wsum wt t
        · rw [if_pos (nI_le hle (by omega)), hno (by rw [key]; omega)]; rfl
        · rw [if_neg (nI_ge (by omega) (by omega)), hyes (key.mpr (Or.inr ⟨heq, Or.inl (by omega)⟩))]; rfl
    · rw [if_neg (by rw [nI_eq (by omega) (by omega)]; exact heq), if_neg (nI_pos (by omega))]
      by_cases hle : u.length ≤ t.length
      · rw [if_pos (nI_le hle (by omega)), hno (by rw [key]; omega)]; rfl
      · rw [if_neg (nI_ge (by omega) (by omega)), hyes (key.mpr (Or.inl (by omega)))]; rfl
theorem m_copies_bests {trial row : Nat → Int32} {tl : Int32} {x : wO} {u : List Nat} (hx : okW x) (hu : okW (some u)) (hT : TR trial tl x) {f : Nat} (hf : f + u.length ≤ 25920) (hr : ∀ k, k < u.length → row (f + k) = nI (sy u k)) {N : Nat} (hN : 50 < N) : ∃ o : (Nat → Int32) × Int32, fX12_copies_bests N trial tl row (nI f) (nI u.length) = some o ∧ TR o.1 o.2 (cat x (some u)) := by
  have h40 := ok40 hu
  simp only [fX12_copies_bests, jn2]
  refine vlp3 (B := bX12_copies_bests_3 (nI f) (nI u.length) row fun v1 v2 => some (v1, v2)) (fun j i tr tl => i = nI j ∧ j ≤ u.length ∧ TR tr tl (cat x (some (u.take j)))) (fun r => ∃ o : (Nat → Int32) × Int32, r = some o ∧ TR o.1 o.2 (cat x (some u))) u.length ?_ ?_ N 0 trial tl (by omega) ⟨rfl, Nat.zero_le _, by rw [List.take_zero, cat_em_r hx]; exact hT⟩
  · rintro j i tr tl hj ⟨rfl, _, hT1⟩
    left
    obtain ⟨o, e, hT2⟩ := m_adds (cat_ok hx (okW_take hu j)) hT1 (sy u j)
    rw [cat_take_succ h40 hj] at hT2
    refine ⟨nI (j + 1), o.1, o.2, ⟨rfl, by omega, hT2⟩, fun rc => ?_⟩
    simp only [bX12_copies_bests_3]
    rw [if_neg (nI_ge hj (by omega)), nI_add, ag_ok (show f + j < 25920 by omega)]
    simp only [obs, hr j hj, e, bd2, lt_, nI_1]
  · rintro i tr tl ⟨rfl, _, hT1⟩
    rw [List.take_length] at hT1
    refine ⟨_, ⟨(tr, tl), rfl, hT1⟩, fun rc => ?_⟩
    simp only [bX12_copies_bests_3]
    rw [if_pos (Int32.le_refl _)]
