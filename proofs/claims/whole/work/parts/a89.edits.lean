/-! THE REFERENCE ahead of an edit: sets kept, the rows of the past moved and laid -/
def HM (hs : List (List gP)) (edits : Int32) (pr pl ps pg : Nat → Int32) : Prop := hs.length ≤ 10 ∧ edits = nI hs.length ∧ ∀ i, i < hs.length → PRow pr pl ps pg (hs.length - 1 - i) (hs.getD i []) ∧ okG (hs.getD i [])
theorem HM_lays {hs : List (List gP)} {G : List gP} (h9 : hs.length ≤ 9) {pr pl ps pg pr' pl' ps' pg' : Nat → Int32} (hr : ∀ i, i < hs.length → PRow pr pl ps pg (hs.length - 1 - i) (hs.getD i []) ∧ okG (hs.getD i [])) (hG : okG G) (h1 : PRow pr' pl' ps' pg' hs.length G) (h2 : ∀ d' H, d' ≠ hs.length → okG H → PRow pr pl ps pg d' H → PRow pr' pl' ps' pg' d' H) : HM (G :: hs) (nI (hs.length + 1)) pr' pl' ps' pg' := by
  refine ⟨by rw [List.length_cons]; omega, by rw [List.length_cons], fun i hi => ?_⟩
  rw [List.length_cons] at hi ⊢
  cases i with
  | zero => exact ⟨h1, hG⟩
  | succ k =>
    have e : hs.length + 1 - 1 - (k + 1) = hs.length - 1 - k := by omega
    rw [e]
    have hk := hr k (by omega)
    exact ⟨h2 _ _ (by omega) hk.2 hk.1, hk.2⟩
theorem m_moveAll {hs : List (List gP)} (h10 : hs.length = 10) {pr pl ps pg : Nat → Int32} (hr : ∀ i, i < hs.length → PRow pr pl ps pg (hs.length - 1 - i) (hs.getD i []) ∧ okG (hs.getD i [])) (K) {N0 : Nat} (hN0 : 130 < N0) {N : Nat} (hN : 130 < N) : ∃ pr' pl' ps' pg', itr5 (bX12_edits_19 N0 K) N 1 pr pl ps pg = K pr' pl' ps' pg' ∧ ∀ i, i < 9 → PRow pr' pl' ps' pg' (8 - i) (hs.getD i []) := by
  rw [h10] at hr
  refine vlp5 (fun j i a b c d => i = nI (j + 1) ∧ j ≤ 9 ∧ (∀ k, k < 9 → 8 - k < j → PRow a b c d (8 - k) (hs.getD k [])) ∧ ∀ k, k < 10 → j ≤ 9 - k → PRow a b c d (9 - k) (hs.getD k [])) (fun r => ∃ pr' pl' ps' pg', r = K pr' pl' ps' pg' ∧ ∀ i, i < 9 → PRow pr' pl' ps' pg' (8 - i) (hs.getD i [])) 9 ?_ ?_ N 1 pr pl ps pg (by omega) ⟨rfl, by omega, fun k h1 h2 => absurd h2 (Nat.not_lt_zero _), fun k hk _ => by have := (hr k hk).1; rw [show 9 - k = 10 - 1 - k by omega]; exact this⟩
  · rintro j i a b c d hj ⟨rfl, _, h1, h2⟩
    left
    obtain ⟨a', b', c', d', e, m1, m2⟩ := m_moves hj a b c d hN0
    refine ⟨nI (j + 1 + 1), a', b', c', d', ⟨rfl, by omega, fun k hk hk2 => ?_, fun k hk hk2 => ?_⟩, fun rc => ?_⟩
    · by_cases e : 8 - k = j
      · rw [e]
        refine m1 _ (hr k (by omega)).2 ?_
        have := h2 k (by omega) (by omega)
        rw [show 9 - k = j + 1 by omega] at this
        exact this
      · exact m2 _ _ e (hr k (by omega)).2 (h1 k hk (by omega))
    · exact m2 _ _ (by omega) (hr k (by omega)).2 (h2 k hk (by omega))
    · simp only [bX12_edits_19]
      rw [if_neg (nleL 10 10 (by omega)), e]
      simp only [bd4, obs, lt_, nI_1]
  · rintro i a b c d ⟨rfl, _, h1, h2⟩
    refine ⟨_, ⟨a, b, c, d, rfl, fun k hk => h1 k hk (by omega)⟩, fun rc => ?_⟩
    simp only [bX12_edits_19]
    rw [if_pos (by decide)]
theorem m_edits {rules : Int32} {lefts sizes rights : Nat → Int32} {G : List gP} (hM : RM rules lefts sizes rights G) (hG : okG G) {Es : Int32} {Fs Ws : Nat → Int32} (hS : SetsOK G Es Fs Ws) {iw e : Int32} {f w st lg : Nat → Int32} (tr : Nat → Int32) (tl : Int32) (hi : iw = 0 ∨ (iw = 1 ∧ ∃ v, WK G Es Fs Ws e f w st lg v)) {hs : List (List gP)} {ed : Int32} {pr pl ps pg : Nat → Int32} (hH : HM hs ed pr pl ps pg) (ik ke : Int32) (kf kw : Nat → Int32) {N : Nat} (hN : 2000 < N) : ∃ ed' pr' pl' ps' pg' f' w' kf' kw' st' lg' tr' tl', fX12_edits N rules lefts sizes rights ed pr pl ps pg iw e f w ik ke kf kw st lg tr tl = some (ed', pr', pl', ps', pg', 0, Es, f', w', 1, Es, kf', kw', st', lg', tr', tl') ∧ HM ((G :: hs).take 10) ed' pr' pl' ps' pg' ∧ (∀ n, n < 8 → kf' n = Fs n) ∧ ∀ n, n < 8 → kw' n = Ws n := by
  obtain ⟨f', w', st', lg', tr', tl', v, e1, k1⟩ := m_works hM hG hS tr tl hi hN
  obtain ⟨kf', kw', e2, a1, a2⟩ := m_keepsSets Es ik ke f' w' kf kw (show 30 < N by omega)
  have c1 : ∀ n, n < 8 → kf' n = Fs n := fun n hn => by rw [a1 n hn]; exact k1.2.1 n hn
  have c2 : ∀ n, n < 8 → kw' n = Ws n := fun n hn => by rw [a2 n hn]; exact k1.2.2.1 n hn
  obtain ⟨h10, rfl, hr⟩ := hH
  simp only [fX12_edits, e1, bd8, obs, e2, jn5, bd4]
  by_cases h : hs.length = 10
  · rw [if_pos (show nI hs.length = 10 by rw [h]; rfl)]
    obtain ⟨pr1, pl1, ps1, pg1, e3, m1⟩ := m_moveAll h hr (fun v24 v25 v26 v27 => lt_ (nI hs.length - 1) fun x28 => bd4 (fX12_lays N rules lefts sizes rights v24 v25 v26 v27 x28) fun o18 o19 o20 o21 => lt_ (x28 + (1 : Int32)) fun x22 => some (x22, o18, o19, o20, o21, 0, Es, f', w', 1, Es, kf', kw', st', lg', tr', tl')) (show 130 < N by omega) (show 130 < N by omega)
    obtain ⟨pr2, pl2, ps2, pg2, e4, b1, b2⟩ := m_lays hM hG (show 9 < 10 by decide) pr1 pl1 ps1 pg1 (show 130 < N by omega)
    have e5 : (nI hs.length - 1 : Int32) = nI 9 := by rw [nI_sub1 (by omega), h]
    refine ⟨nI 10, pr2, pl2, ps2, pg2, f', w', kf', kw', st', lg', tr', tl', ?_, ?_, c1, c2⟩
    · simp only [jn4]
      simp only [bd4] at e3
      refine Eq.trans e3 ?_
      simp only [lt_, e5, e4, obs, nI_1]
    · have et : (G :: hs).take 10 = G :: hs.take 9 := by simp
      have hl : (hs.take 9).length = 9 := by rw [List.length_take]; omega
      rw [et]
      have := HM_lays (hs := hs.take 9) (G := G) (by omega) (pr := pr1) (pl := pl1) (ps := ps1) (pg := pg1) (pr' := pr2) (pl' := pl2) (ps' := ps2) (pg' := pg2) (fun i hi => ?_) hG (by rw [hl]; exact b1) (by rw [hl]; exact b2)
      · rw [hl] at this
        exact this
      · rw [hl] at hi ⊢
        have eg : (hs.take 9).getD i [] = hs.getD i [] := by
          rw [List.getD_eq_getElem?_getD, List.getD_eq_getElem?_getD, List.getElem?_take, if_pos hi]
        rw [eg, show 9 - 1 - i = 8 - i by omega]
        exact ⟨m1 i hi, (hr i (by omega)).2⟩
  · rw [if_neg (show ¬ nI hs.length = 10 from by
      have e0 : (10 : Int32) = nI 10 := rfl
      rw [e0, nI_eq (by omega) (by decide)]; exact h)]
    obtain ⟨pr2, pl2, ps2, pg2, e4, b1, b2⟩ := m_lays hM hG (show hs.length < 10 by omega) pr pl ps pg (show 130 < N by omega)
    refine ⟨nI (hs.length + 1), pr2, pl2, ps2, pg2, f', w', kf', kw', st', lg', tr', tl', ?_, ?_, c1, c2⟩
    · simp only [e4, bd4, obs, lt_, nI_1]
    · have et : (G :: hs).take 10 = G :: hs := List.take_of_length_le (by rw [List.length_cons]; omega)
      rw [et]
      exact HM_lays (by omega) hr hG b1 b2
