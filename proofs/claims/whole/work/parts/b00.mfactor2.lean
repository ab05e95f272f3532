/-! THE REFERENCE'S left factoring: rows dropped, the lead cut, the new rows -/
section MFB
variable {rules : Int32} {lefts sizes rights : Nat → Int32} {G : List gP}
theorem okG_sub (hG : okG G) {H : List gP} (h : H.Sublist G) : okG H := ⟨Nat.le_trans h.length_le hG.1, fun q hq => hG.2.1 q (h.subset hq), hG.2.2.sublist h⟩
theorem gp_appL {A B : List gP} {p : Nat} (h : p < A.length) : gp (A ++ B) p = gp A p := by
  unfold gp
  rw [List.getD_eq_getElem?_getD, List.getD_eq_getElem?_getD, List.getElem?_append_left h]
theorem gp_take {p j : Nat} (h : p < j) : gp (G.take j) p = gp G p := by
  unfold gp
  rw [List.getD_eq_getElem?_getD, List.getD_eq_getElem?_getD, List.getElem?_take, if_pos h]
theorem drop_gp {j : Nat} (h : j < G.length) : G.drop j = gp G j :: G.drop (j + 1) := by
  have e : gp G j = G[j] := by simp [gp, List.getD, h]
  rw [e, List.drop_eq_getElem_cons h]
/-- rows from j on that a property P keeps -/
def dpL (P : gP → Bool) (G : List gP) (j : Nat) : List gP := G.take j ++ (G.drop j).filter P
theorem dpL_all (P : gP → Bool) (G : List gP) : dpL P G G.length = G := by unfold dpL; simp
theorem dpL_sub (P : gP → Bool) (G : List gP) (j : Nat) : (dpL P G j).Sublist G := by
  have := List.Sublist.append (List.Sublist.refl (G.take j)) (List.filter_sublist (p := P) (l := G.drop j))
  rw [List.take_append_drop] at this
  exact this
theorem dpL_gp (P : gP → Bool) {p j : Nat} (h : p < j) (hj : j ≤ G.length) : gp (dpL P G j) p = gp G p := by
  unfold dpL
  rw [gp_appL (by rw [List.length_take]; omega), gp_take h]
theorem dpL_len (P : gP → Bool) {j : Nat} (hj : j ≤ G.length) : j ≤ (dpL P G j).length := by
  unfold dpL
  rw [List.length_append, List.length_take]; omega
theorem dpL_keep {P : gP → Bool} {j : Nat} (h : j < G.length) (hP : P (gp G j) = true) : dpL P G (j + 1) = dpL P G j := by
  unfold dpL
  rw [take_gp h, drop_gp h, List.filter_cons, if_pos hP, List.append_assoc]
  rfl
theorem dpL_drop {P : gP → Bool} {j : Nat} (h : j < G.length) (hP : P (gp G j) = false) : (dpL P G (j + 1)).eraseIdx j = dpL P G j := by
  have hl : (G.take j).length = j := by rw [List.length_take]; omega
  unfold dpL
  rw [take_gp h, drop_gp h, List.filter_cons, if_neg (by rw [hP]; decide), List.append_assoc, List.eraseIdx_append_of_length_le (by omega), hl, Nat.sub_self]
  rfl
theorem m_lfDrops (hM : RM rules lefts sizes rights G) (hG : okG G) {n M lw : Nat} (hn : n < 8) (hM4 : M ≤ 4) (hlw : lw < G.length) (K) {N0 : Nat} (hN0 : 30 < N0) {N : Nat} (hN : 30 < N) : ∃ r' l' s' g', itr5 (bX12_leftFactor_288 N0 (nI n) (nI M) (nI lw) K) N (nI (G.length - 1)) rules lefts sizes rights = K r' l' s' g' ∧ RM r' l' s' g' (dpL (fun q => !tP n M (gp G lw) q) G (lw + 1)) := by
  have hl := hG.1
  have hq0 := okG_gp hG hlw
  refine vlp5 (B := bX12_leftFactor_288 N0 (nI n) (nI M) (nI lw) K) (fun t i r l s g => i = nI (G.length - 1 - t) ∧ t ≤ G.length - 1 - lw ∧ RM r l s g (dpL (fun q => !tP n M (gp G lw) q) G (G.length - t))) (fun x => ∃ r' l' s' g', x = K r' l' s' g' ∧ RM r' l' s' g' (dpL (fun q => !tP n M (gp G lw) q) G (lw + 1))) (G.length - 1 - lw) ?_ ?_ N _ rules lefts sizes rights (by omega) ⟨rfl, by omega, by rw [Nat.sub_zero, dpL_all]; exact hM⟩
  · rintro t i r l s g ht ⟨rfl, hb, hr⟩
    left
    obtain ⟨p, hp⟩ : ∃ p, p = G.length - 1 - t := ⟨_, rfl⟩
    have hpl : p < G.length := by omega
    have e1 : G.length - t = p + 1 := by omega
    have e2 : G.length - (t + 1) = p := by omega
    have e3 : G.length - 1 - (t + 1) = p - 1 := by omega
    rw [e1] at hr
    rw [← hp]
    have hsub := dpL_sub (fun q => !tP n M (gp G lw) q) G (p + 1)
    have hGD := okG_sub hG hsub
    have hlD := dpL_len (G := G) (fun q => !tP n M (gp G lw) q) (show p + 1 ≤ G.length by omega)
    have g1 := dpL_gp (G := G) (fun q => !tP n M (gp G lw) q) (show p < p + 1 by omega) (by omega)
    have g2 := dpL_gp (G := G) (fun q => !tP n M (gp G lw) q) (show lw < p + 1 by omega) (by omega)
    have hle24 := hGD.1
    have hq := okG_gp hG hpl
    have h8 := hq.1
    have h5 := hq.2.1
    have hcm := (cmn_le (gp G p).2 (gp G lw).2).1
    have a1 := (hr.2 p (by omega)).1
    rw [g1] at a1
    have hc := m_common hr hGD (show p < _ by omega) (show lw < _ by omega) hN0
    rw [g1, g2] at hc
    have e4 : nI p + (-1) = nI (G.length - 1 - (t + 1)) := by rw [e3, nI_addm1 (by omega)]
    have hgo : ∀ rc : _ → _ → _ → _ → _ → Option lfT, bX12_leftFactor_288 N0 (nI n) (nI M) (nI lw) K rc (nI p) r l s g = if tP n M (gp G lw) (gp G p) = true then bd4 (fX12_drops N0 r l s g (nI p)) (fun a b c d => rc (nI (G.length - 1 - (t + 1))) a b c d) else rc (nI (G.length - 1 - (t + 1))) r l s g := by
      intro rc
      simp only [bX12_leftFactor_288, jn4, lt_]
      rw [if_neg (nI_ge (show lw < p by omega) (by omega)), ag_ok (show p < 24 by omega), obs, a1, e4]
      by_cases en : (gp G p).1 = n
      · rw [if_pos (by rw [en]), hc, obs]
        by_cases ec : M ≤ cmn (gp G p).2 (gp G lw).2
        · rw [if_neg (nI_nlt ec (by omega)), if_pos (show tP n M (gp G lw) (gp G p) = true by unfold tP; simp [en, ec])]
        · rw [if_pos (nI_lt (by omega) (by omega)), if_neg (show ¬ tP n M (gp G lw) (gp G p) = true by unfold tP; simp [ec])]
      · rw [if_neg (by rw [nI_eq (by omega) (by omega)]; exact en), if_neg (show ¬ tP n M (gp G lw) (gp G p) = true by unfold tP; simp [en])]
    by_cases et : tP n M (gp G lw) (gp G p) = true
    · obtain ⟨r', l', s', g', d1, d2⟩ := m_drops hr hGD (show p < _ by omega) hN0
      rw [dpL_drop hpl (by rw [et]; rfl)] at d2
      refine ⟨_, r', l', s', g', ⟨rfl, by omega, by rw [e2]; exact d2⟩, fun rc => ?_⟩
      rw [hgo, if_pos et, d1]
      rfl
    · rw [dpL_keep hpl (by simpa using et)] at hr
      refine ⟨_, r, l, s, g, ⟨rfl, by omega, by rw [e2]; exact hr⟩, fun rc => ?_⟩
      rw [hgo, if_neg et]
  · rintro i r l s g ⟨rfl, hb, hr⟩
    have e : G.length - (G.length - 1 - lw) = lw + 1 := by omega
    rw [e] at hr
    refine ⟨_, ⟨r, l, s, g, rfl, hr⟩, fun rc => ?_⟩
    simp only [bX12_leftFactor_288]
    rw [if_pos (nI_le (show G.length - 1 - (G.length - 1 - lw) ≤ lw by omega) (by omega))]
theorem gp_set {H : List gP} {p k : Nat} (q : gP) (hp : p < H.length) : gp (H.set p q) k = if k = p then q else gp H k := by
  unfold gp
  rw [List.getD_eq_getElem?_getD, List.getD_eq_getElem?_getD, List.getElem?_set]
  by_cases e : p = k
  · subst e
    rw [if_pos rfl, if_pos hp, if_pos rfl]
    rfl
  · rw [if_neg e, if_neg (fun h => e h.symm)]
/-- one row written anew -/
theorem RM_set {H : List gP} (hR : RM rules lefts sizes rights H) (hH : okG H) {p : Nat} (hp : p < H.length) {w : List Nat} (hw : w.length ≤ 5) {s' g' : Nat → Int32} (h1 : s' p = nI w.length) (h2 : ∀ k, k ≠ p → s' k = sizes k) (h3 : ∀ i, i < w.length → g' (5 * p + i) = nI (sy w i)) (h4 : ∀ x, (x < 5 * p ∨ 5 * p + 5 ≤ x) → g' x = rights x) : RM rules lefts s' g' (H.set p ((gp H p).1, w)) := by
  refine ⟨by rw [List.length_set]; exact hR.1, fun k hk => ?_⟩
  rw [List.length_set] at hk
  rw [gp_set _ hp]
  by_cases e : k = p
  · subst e
    rw [if_pos rfl]
    exact ⟨(hR.2 k hk).1, h1, h3⟩
  · rw [if_neg e]
    obtain ⟨a, b, c⟩ := hR.2 k hk
    have h5 := (okG_gp hH hk).2.1
    exact ⟨a, by rw [h2 k e]; exact b, fun i hi => by rw [h4 _ (by omega)]; exact c i hi⟩
/-- one row appended -/
theorem RM_app {H : List gP} (hR : RM rules lefts sizes rights H) (hH : okG H) {l : Nat} {w : List Nat} {s' g' : Nat → Int32} (h1 : s' H.length = nI w.length) (h2 : ∀ k, k ≠ H.length → s' k = sizes k) (h3 : ∀ i, i < w.length → g' (5 * H.length + i) = nI (sy w i)) (h4 : ∀ x, x < 5 * H.length → g' x = rights x) : RM (nI (H.length + 1)) (upd lefts H.length (nI l)) s' g' (H ++ [(l, w)]) := by
  refine ⟨by rw [List.length_append]; rfl, fun k hk => ?_⟩
  rw [gp_app H _ k hk]
  rw [List.length_append, List.length_singleton] at hk
  by_cases e : k < H.length
  · rw [if_pos e]
    obtain ⟨a, b, c⟩ := hR.2 k e
    have h5 := (okG_gp hH e).2.1
    exact ⟨by rw [pk_un (by omega)]; exact a, by rw [h2 k (by omega)]; exact b, fun i hi => by rw [h4 _ (by omega)]; exact c i hi⟩
  · have : k = H.length := by omega
    subst this
    rw [if_neg e]
    exact ⟨pk_us, h1, h3⟩
theorem m_puts {p m : Nat} (hp : p < 24) (hm : m < 5) (hs : sizes p = nI m) (x : Int32) : fX12_puts sizes rights (nI p) x = some (upd sizes p (nI (m + 1)), upd rights (5 * p + m) x) := by
  simp only [fX12_puts]
  rw [ag_ok hp, obs, hs, n5, pk_mul, nI_add, as_ok (show 5 * p + m < 120 by omega), obs, obs, nI_1, as_ok hp, obs]
theorem m_lfPut {mv mz : Nat → Int32} {k p m : Nat} (hk : k < 24) (hp : p < 24) (hm : m ≤ 5) (hz : mz k = nI m) (hs : sizes p = 0) {N : Nat} (hN : 30 < N) : ∃ s' g', (∀ K : (Nat → Int32) → (Nat → Int32) → Option lfT, itr3 (bX12_leftFactor_366 mv mz (nI k) (nI p) K) N 0 sizes rights = K s' g') ∧ s' p = nI m ∧ (∀ x, x ≠ p → s' x = sizes x) ∧ (∀ i, i < m → g' (5 * p + i) = mv (5 * k + i)) ∧ ∀ x, (x < 5 * p ∨ 5 * p + 5 ≤ x) → g' x = rights x := by
  refine vlq3 (B := fun K => bX12_leftFactor_366 mv mz (nI k) (nI p) K) (fun j i s g => i = nI j ∧ j ≤ m ∧ s p = nI j ∧ (∀ x, x ≠ p → s x = sizes x) ∧ (∀ i, i < j → g (5 * p + i) = mv (5 * k + i)) ∧ ∀ x, (x < 5 * p ∨ 5 * p + 5 ≤ x) → g x = rights x) (fun r : ((Nat → Int32) → (Nat → Int32) → Option lfT) → Option lfT => ∃ s' g', (∀ K : (Nat → Int32) → (Nat → Int32) → Option lfT, r K = K s' g') ∧ s' p = nI m ∧ (∀ x, x ≠ p → s' x = sizes x) ∧ (∀ i, i < m → g' (5 * p + i) = mv (5 * k + i)) ∧ ∀ x, (x < 5 * p ∨ 5 * p + 5 ≤ x) → g' x = rights x) m ?_ ?_ N 0 sizes rights (by omega) ⟨rfl, Nat.zero_le _, hs, fun _ _ => rfl, fun i hi => absurd hi (Nat.not_lt_zero _), fun _ _ => rfl⟩
  · rintro j i s g hj ⟨rfl, hb, h1, h2, h3, h4⟩
    left
    refine ⟨nI (j + 1), upd s p (nI (j + 1)), upd g (5 * p + j) (mv (5 * k + j)), ⟨rfl, by omega, pk_us, fun x hx => ?_, fun i hi => ?_, fun x hx => ?_⟩, fun K rc => ?_⟩
    · rw [pk_un hx]; exact h2 x hx
    · by_cases e : i = j
      · subst e; exact pk_us
      · rw [pk_un (by omega)]; exact h3 i (by omega)
    · rw [pk_un (by omega)]; exact h4 x hx
    · simp only [bX12_leftFactor_366, lt_, nI_1]
      rw [ag_ok hk, obs, hz, if_neg (nI_ge hj (by omega)), n5, pk_mul, nI_add, ag_ok (show 5 * k + j < 120 by omega), obs, m_puts hp (by omega) h1]
      rfl
  · rintro i s g ⟨rfl, hb, h1, h2, h3, h4⟩
    refine ⟨fun K => K s g, ⟨s, g, fun _ => rfl, h1, h2, h3, h4⟩, fun K rc => ?_⟩
    simp only [bX12_leftFactor_366]
    rw [ag_ok hk, obs, hz, if_pos (Int32.le_refl _)]
theorem m_lfNew {H : List gP} (hR : RM rules lefts sizes rights H) {fr : Nat} {mv mz : Nat → Int32} {Lm : List (List Nat)} (hV : MV mv mz Lm) (hH : okG (H ++ Lm.map fun w => (fr, w))) (K) {N0 : Nat} (hN0 : 30 < N0) {N : Nat} (hN : 30 < N) : ∃ r' l' s' g', itr5 (bX12_leftFactor_348 N0 (nI fr) (nI Lm.length) mv mz K) N 0 rules lefts sizes rights = K r' l' s' g' ∧ RM r' l' s' g' (H ++ Lm.map fun w => (fr, w)) := by
  have hle := hH.1
  rw [List.length_append, List.length_map] at hle
  refine vlp5 (B := bX12_leftFactor_348 N0 (nI fr) (nI Lm.length) mv mz K) (fun j i r l s g => i = nI j ∧ j ≤ Lm.length ∧ RM r l s g (H ++ (Lm.take j).map fun w => (fr, w))) (fun x => ∃ r' l' s' g', x = K r' l' s' g' ∧ RM r' l' s' g' (H ++ Lm.map fun w => (fr, w))) Lm.length ?_ ?_ N 0 rules lefts sizes rights (by omega) ⟨rfl, Nat.zero_le _, by simpa using hR⟩
  · rintro j i r l s g hj ⟨rfl, hb, hr⟩
    left
    have hsub : (H ++ (Lm.take j).map fun w => (fr, w)).Sublist (H ++ Lm.map fun w => (fr, w)) := List.Sublist.append (List.Sublist.refl _) ((List.take_sublist j Lm).map _)
    have hHj := okG_sub hH hsub
    have hlen : (H ++ (Lm.take j).map fun w => (fr, w)).length = H.length + j := by
      rw [List.length_append, List.length_map, List.length_take]; omega
    obtain ⟨v1, v2, v3⟩ := hV.2 j hj
    have eLm : Lm.take (j + 1) = Lm.take j ++ [Lm.getD j []] := by
      rw [List.take_add_one, List.getD_eq_getElem?_getD, List.getElem?_eq_getElem hj]
      rfl
    have ho := m_opens hr (l := fr) (by rw [hlen]; omega)
    obtain ⟨s', g', p1, p2, p3, p4, p5⟩ := m_lfPut (sizes := upd s (H ++ (Lm.take j).map fun w => (fr, w)).length 0) (rights := g) (mv := mv) (mz := mz) (k := j) (p := (H ++ (Lm.take j).map fun w => (fr, w)).length) (m := (Lm.getD j []).length) (by have := hV.1; omega) (by rw [hlen]; omega) v1 v2 pk_us hN0
    have hnew := RM_app (l := fr) (w := Lm.getD j []) (s' := s') (g' := g') hr hHj p2 (fun k hk => by rw [p3 k hk, pk_un hk]) (fun i hi => by rw [p4 i hi]; exact v3 i hi) (fun x hx => p5 x (Or.inl hx))
    have eH : (H ++ (Lm.take j).map fun w => (fr, w)) ++ [(fr, Lm.getD j [])] = H ++ (Lm.take (j + 1)).map fun w => (fr, w) := by
      rw [eLm, List.map_append, ← List.append_assoc]
      rfl
    rw [eH] at hnew
    refine ⟨nI (j + 1), _, _, s', g', ⟨rfl, by omega, hnew⟩, fun rc => ?_⟩
    · simp only [bX12_leftFactor_348, jn2, lt_, nI_1]
      rw [if_neg (nI_ge hj (by omega)), ho]
      simp only [bd4, obs]
      rw [p1]
  · rintro i r l s g ⟨rfl, hb, hr⟩
    rw [List.take_length] at hr
    refine ⟨_, ⟨r, l, s, g, rfl, hr⟩, fun rc => ?_⟩
    simp only [bX12_leftFactor_348]
    rw [if_pos (Int32.le_refl _)]
end MFB
