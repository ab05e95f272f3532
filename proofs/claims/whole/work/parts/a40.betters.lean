/-! THE REFERENCE: a better string is kept; shortens -/
def lessO (wt : Nat → Nat) (x y : wO) : Bool := decide (kN wt x < kN wt y)
theorem wsum_w0 : ∀ u, wsum w0 u = 0
  | [] => rfl
  | t :: r => by simp only [wsum, wsum_w0 r]; rfl
theorem lessO_none {wt : Nat → Nat} (hw : wt9 wt) {y : wO} (hy : okW y) : lessO wt none y = false := by
  have h := ky_le_top hw ⟨y, hy⟩
  have e : kN wt none = topK := ky_no wt
  have h2 : kN wt y ≤ topK := h
  unfold lessO
  rw [e]
  simp
  omega
theorem lessO_some_none {wt : Nat → Nat} (hw : wt9 wt) {t : List Nat} (ht : okW (some t)) : lessO wt (some t) none = true := by
  have h := (ky_lt_top hw ⟨some t, ht⟩).mpr (by simp)
  have e : kN wt none = topK := ky_no wt
  have h2 : kN wt (some t) < topK := h
  unfold lessO
  rw [e]
  simp [h2]
theorem less_w0 {t u : List Nat} (ht : okW (some t)) (hu : okW (some u)) : kN w0 (some t) < kN w0 (some u) ↔ t.length < u.length ∨ (t.length = u.length ∧ valN t < valN u) := by
  have h := ky_lt_iff w0 ⟨some t, ht⟩ ⟨some u, hu⟩
  simp only [ky, cN, wsum_w0, vN] at h
  rw [h]
  omega
theorem m_store {strings trial : Nat → Int32} {s : Nat} (hs : s < 32) {t : List Nat} (ht : t.length ≤ 40) (hT : ∀ k, k < t.length → trial k = nI (sy t k)) (f7 : Nat → Int32) {N : Nat} (hN : 50 < N) : ∃ st', itr2 (bX12_betters_122 (nI s) trial (nI t.length) fun v8 => some (1, v8, f7)) N 0 strings = some (1, st', f7) ∧ (∀ k, k < t.length → st' (40 * s + k) = nI (sy t k)) ∧ ∀ i, (i < 40 * s ∨ 40 * s + 40 ≤ i) → st' i = strings i := by
  refine vlp2 (B := bX12_betters_122 (nI s) trial (nI t.length) fun v8 => some (1, v8, f7)) (fun j i st => i = nI j ∧ j ≤ t.length ∧ (∀ k, k < j → st (40 * s + k) = nI (sy t k)) ∧ ∀ i, (i < 40 * s ∨ 40 * s + 40 ≤ i) → st i = strings i) (fun r => ∃ st', r = some (1, st', f7) ∧ (∀ k, k < t.length → st' (40 * s + k) = nI (sy t k)) ∧ ∀ i, (i < 40 * s ∨ 40 * s + 40 ≤ i) → st' i = strings i) t.length ?_ ?_ N 0 strings (by omega) ⟨rfl, Nat.zero_le _, fun k hk => absurd hk (Nat.not_lt_zero _), fun _ _ => rfl⟩
  · rintro j i st hj ⟨rfl, _, h1, h2⟩
    left
    refine ⟨nI (j + 1), upd st (40 * s + j) (nI (sy t j)), ⟨rfl, by omega, fun k hk => ?_, fun i hi => ?_⟩, fun rc => ?_⟩
    · by_cases e : k = j
      · subst e; exact pk_us
      · rw [pk_un (by omega)]; exact h1 k (by omega)
    · rw [pk_un (by omega)]; exact h2 i hi
    · have e40 : (40 : Int32) * nI s = nI (40 * s) := pk_mul 40 s
      simp only [bX12_betters_122]
      rw [if_neg (nI_ge hj (by omega)), ag_ok (show j < 40 by omega), e40, nI_add]
      simp only [obs, as_ok (show 40 * s + j < 1280 by omega), hT j hj, lt_, nI_1]
  · rintro i st ⟨rfl, _, h1, h2⟩
    refine ⟨_, ⟨st, rfl, h1, h2⟩, fun rc => ?_⟩
    simp only [bX12_betters_122]
    rw [if_pos (Int32.le_refl _)]
theorem m_differ {strings trial : Nat → Int32} {s : Nat} (hs : s < 32) {t u : List Nat} (ht : okW (some t)) (hu : okW (some u)) (hl : t.length = u.length) (hT : ∀ k, k < t.length → trial k = nI (sy t k)) (hS : ∀ k, k < u.length → strings (40 * s + k) = nI (sy u k)) (k23 : Int32 → Option (Int32 × (Nat → Int32) × (Nat → Int32))) {N : Nat} (hN : 50 < N) : ∃ j, j ≤ t.length ∧ itr (bX12_betters_46 (nI s) strings trial (nI t.length) k23) N 0 = k23 (nI j) ∧ (∀ k, k < j → sy t k = sy u k) ∧ (j < t.length → sy t j ≠ sy u j) := by
  have h40 := ok40 ht
  refine vlp1 (B := bX12_betters_46 (nI s) strings trial (nI t.length) k23) (fun j i => i = nI j ∧ j ≤ t.length ∧ ∀ k, k < j → sy t k = sy u k) (fun r => ∃ j, j ≤ t.length ∧ r = k23 (nI j) ∧ (∀ k, k < j → sy t k = sy u k) ∧ (j < t.length → sy t j ≠ sy u j)) t.length ?_ ?_ N 0 (by omega) ⟨rfl, Nat.zero_le _, fun k hk => absurd hk (Nat.not_lt_zero _)⟩
  · rintro j i hj ⟨rfl, _, h1⟩
    have e40 : (40 : Int32) * nI s = nI (40 * s) := pk_mul 40 s
    have a8 : sy t j < 8 := ht.1 _ (sy_mem hj)
    have b8 : sy u j < 8 := hu.1 _ (sy_mem (by omega))
    have hstep : ∀ rc, bX12_betters_46 (nI s) strings trial (nI t.length) k23 rc (nI j) = if sy t j = sy u j then rc (nI (j + 1)) else k23 (nI j) := by
      intro rc
      simp only [bX12_betters_46]
      rw [if_neg (nI_ge hj (by omega)), ag_ok (show j < 40 by omega), e40, nI_add]
      simp only [obs, ag_ok (show 40 * s + j < 1280 by omega), hT j hj, hS j (by omega), lt_, nI_1]
      by_cases e : sy t j = sy u j
      · rw [if_pos (by rw [e]), if_pos e]
      · rw [if_neg (by rw [nI_eq (by omega) (by omega)]; exact e), if_neg e]
    by_cases e : sy t j = sy u j
    · left
      refine ⟨nI (j + 1), ⟨rfl, by omega, fun k hk => ?_⟩, fun rc => by rw [hstep, if_pos e]⟩
      by_cases ek : k = j
      · subst ek; exact e
      · exact h1 k (by omega)
    · right
      exact ⟨_, ⟨j, by omega, rfl, h1, fun _ => e⟩, fun rc => by rw [hstep, if_neg e]⟩
  · rintro i ⟨rfl, _, h1⟩
    refine ⟨_, ⟨t.length, Nat.le_refl _, rfl, h1, fun h => absurd h (Nat.lt_irrefl _)⟩, fun rc => ?_⟩
    simp only [bX12_betters_46]
    rw [if_pos (Int32.le_refl _)]
theorem m_betters {strings longs trial : Nat → Int32} {tl : Int32} {x y : wO} (hx : okW x) (hy : okW y) {s : Nat} (hs : s < 32) (hS : SS strings longs s y) (hT : TR trial tl x) {N : Nat} (hN : 50 < N) : ∃ st' lg', fX12_betters N strings longs trial tl (nI s) = some (b01 (lessO w0 x y), st', lg') ∧ SS st' lg' s (if lessO w0 x y = true then x else y) ∧ ∀ i, i ≠ s → ∀ z, okW z → SS strings longs i z → SS st' lg' i z := by
  obtain ⟨t1, t2⟩ := hT
  have hS0 := hS
  obtain ⟨s1, s2⟩ := hS
  subst t1
  have keep : lessO w0 x y = false → ∃ st' lg', (some (0, strings, longs) : Option (Int32 × (Nat → Int32) × (Nat → Int32))) = some (b01 (lessO w0 x y), st', lg') ∧ SS st' lg' s (if lessO w0 x y = true then x else y) ∧ ∀ i, i ≠ s → ∀ z, okW z → SS strings longs i z → SS st' lg' i z := by
    intro e
    rw [e]
    exact ⟨strings, longs, rfl, hS0, fun _ _ _ _ h => h⟩
  simp only [fX12_betters, jn_]
  cases x with
  | none =>
    rw [lnI_none, if_pos (by decide)]
    exact keep (lessO_none w0_9 hy)
  | some t =>
    have h40 := ok40 hx
    rw [lnI_some, if_neg (nI_pos (by omega))]
    simp only [ag_ok hs, as_ok hs, obs, s1]
    have set : lessO w0 (some t) y = true → ∃ st' lg', itr2 (bX12_betters_122 (nI s) trial (nI t.length) fun v8 => some (1, v8, upd longs s (nI t.length))) N 0 strings = some (b01 (lessO w0 (some t) y), st', lg') ∧ SS st' lg' s (if lessO w0 (some t) y = true then some t else y) ∧ ∀ i, i ≠ s → ∀ z, okW z → SS strings longs i z → SS st' lg' i z := by
      intro e
      rw [e, if_pos rfl]
      obtain ⟨st', e1, e2, e3⟩ := m_store hs h40 (t2 t rfl) (upd longs s (nI t.length)) (strings := strings) hN
      refine ⟨st', _, e1, ⟨pk_us, fun u hu k hk => ?_⟩, fun i hi z hz h => ⟨by rw [pk_un hi]; exact h.1, fun u hu k hk => ?_⟩⟩
      · have : u = t := (Option.some.inj hu).symm
        subst this
        exact e2 k hk
      · subst hu
        have := ok40 hz
        rw [e3 _ (by omega)]
        exact h.2 u rfl k hk
    cases y with
    | none =>
      rw [lnI_none, if_pos (by decide), if_neg (by
        intro e
        have := congrArg Int32.toInt e
        rw [nI_toInt (by omega)] at this
        have e1 : ((-1 : Int32)).toInt = -1 := by decide
        omega)]
      exact set (lessO_some_none w0_9 hx)
    | some u =>
      have h40u := ok40 hy
      have key := less_w0 hx hy
      rw [lnI_some, if_neg (nI_pos (by omega))]
      by_cases hle : t.length ≤ u.length
      · rw [if_pos (nI_le hle (by omega))]
        by_cases heq : t.length = u.length
        · rw [if_pos (by rw [heq])]
          obtain ⟨j, j1, j2, j3, j4⟩ := m_differ hs hx hy heq (t2 t rfl) (s2 u rfl) (fun v18 => if v18 = nI t.length then some (0, strings, longs) else (ag trial 40 v18).bind fun x21 => (ag strings 1280 (40 * nI s + v18)).bind fun x22 => if x21 ≤ x22 then itr2 (bX12_betters_122 (nI s) trial (nI t.length) fun v8 => some (1, v8, upd longs s (nI t.length))) N 0 strings else some (0, strings, longs)) hN
          rw [j2]
          by_cases ej : j = t.length
          · rw [if_pos (by rw [ej])]
            refine keep ?_
            have : t = u := sy_ext heq (fun k hk => j3 k (by omega))
            subst this
            simp [lessO]
          · have hj : j < t.length := by omega
            have a8 : sy t j < 8 := hx.1 _ (sy_mem hj)
            have b8 : sy u j < 8 := hy.1 _ (sy_mem (by omega))
            have e40 : (40 : Int32) * nI s = nI (40 * s) := pk_mul 40 s
            rw [if_neg (by rw [nI_eq (by omega) (by omega)]; exact ej), ag_ok (show j < 40 by omega), e40, nI_add]
            simp only [obs, ag_ok (show 40 * s + j < 1280 by omega), t2 t rfl j hj, s2 u rfl j (by omega)]
            by_cases hlt : sy t j < sy u j
            · rw [if_pos (nI_le (by omega) (by omega))]
              refine set ?_
              have := lex_lt t u j heq hx.1 hy.1 hj j3 hlt
              have h2 : kN w0 (some t) < kN w0 (some u) := key.mpr (Or.inr ⟨heq, this⟩)
              simp [lessO, h2]
            · have hne := j4 hj
              rw [if_neg (nI_ge (by omega) (by omega))]
              refine keep ?_
              have := lex_lt u t j heq.symm hy.1 hx.1 (by omega) (fun k hk => (j3 k hk).symm) (by omega)
              have h2 : ¬ kN w0 (some t) < kN w0 (some u) := by rw [key]; omega
              simp only [lessO, h2, decide_false]
        · rw [if_neg (by rw [nI_eq (by omega) (by omega)]; exact heq)]
          refine set ?_
          have h2 : kN w0 (some t) < kN w0 (some u) := key.mpr (Or.inl (by omega))
          simp [lessO, h2]
      · rw [if_neg (nI_ge (by omega) (by omega))]
        refine keep ?_
        have h2 : ¬ kN w0 (some t) < kN w0 (some u) := by rw [key]; omega
        simp only [lessO, h2, decide_false]
/-- slots a to b hold the words of v -/
def SV (strings longs : Nat → Int32) (v : vW) (a b : Nat) : Prop := ∀ s, a ≤ s → s < b → SS strings longs s (v s).1
theorem m_bettersV {strings longs trial : Nat → Int32} {tl : Int32} {x : wW} {v : vW} {a b : Nat} (hb : b ≤ 32) {s : Nat} (h1 : a ≤ s) (h2 : s < b) (hS : SV strings longs v a b) (hT : TR trial tl x.1) {N : Nat} (hN : 50 < N) : ∃ st' lg', fX12_betters N strings longs trial tl (nI s) = some (b01 (decide (ky w0 x < ky w0 (v s))), st', lg') ∧ SV st' lg' (updW v s (minW w0 (v s) x)) a b := by
  obtain ⟨st', lg', e1, e2, e3⟩ := m_betters x.2 (v s).2 (show s < 32 by omega) (hS s h1 h2) hT hN
  have el : lessO w0 x.1 (v s).1 = decide (ky w0 x < ky w0 (v s)) := rfl
  rw [el] at e1 e2
  refine ⟨st', lg', e1, fun i hi1 hi2 => ?_⟩
  by_cases e : i = s
  · subst e
    rw [updW_s]
    have em : (minW w0 (v i) x).1 = if decide (ky w0 x < ky w0 (v i)) = true then x.1 else (v i).1 := by
      unfold minW
      by_cases h : ky w0 x < ky w0 (v i)
      · rw [if_pos h, if_pos (by simpa using h)]
      · rw [if_neg h, if_neg (by simpa using h)]
    rw [em]; exact e2
  · rw [updW_n e]
    exact e3 i e _ (v i).2 (hS i hi1 hi2)
