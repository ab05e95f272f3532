/-! THE REFERENCE'S removal of left recursion: rows changed, dropped, appended -/
section MTV
variable {rules : Int32} {lefts sizes rights : Nat → Int32} {G : List gP}
theorem m_rlCopy {q : gP} (hq : okP q) {p k : Nat} (hp : p < 24) (hk : k < 24) (h1 : 1 ≤ q.2.length) (h2 : sizes p = nI q.2.length) (h3 : ∀ i, i < q.2.length → rights (5 * p + i) = nI (sy q.2 i)) (mv : Nat → Int32) {N : Nat} (hN : 30 < N) : ∃ mv', (∀ K : (Nat → Int32) → Option lfT, itr2 (bX12_removeLeftRecursion_293 (nI k) (nI p) sizes rights K) N 1 mv = K mv') ∧ (∀ i, i < (q.2.drop 1).length → mv' (5 * k + i) = nI (sy (q.2.drop 1) i)) ∧ ∀ x, x < 5 * k → mv' x = mv x := by
  have h5 := hq.2.1
  have hdl : (q.2.drop 1).length = q.2.length - 1 := List.length_drop
  refine vlq2 (B := fun K => bX12_removeLeftRecursion_293 (nI k) (nI p) sizes rights K) (fun j i f => i = nI (1 + j) ∧ 1 + j ≤ q.2.length ∧ (∀ i, i < j → f (5 * k + i) = nI (sy (q.2.drop 1) i)) ∧ ∀ x, x < 5 * k → f x = mv x) (fun r : ((Nat → Int32) → Option lfT) → Option lfT => ∃ mv', (∀ K : (Nat → Int32) → Option lfT, r K = K mv') ∧ (∀ i, i < (q.2.drop 1).length → mv' (5 * k + i) = nI (sy (q.2.drop 1) i)) ∧ ∀ x, x < 5 * k → mv' x = mv x) (q.2.length - 1) ?_ ?_ N 1 mv (by omega) ⟨rfl, by omega, fun i hi => absurd hi (Nat.not_lt_zero _), fun _ _ => rfl⟩
  · rintro j i f hj ⟨rfl, hb, a1, a2⟩
    left
    refine ⟨nI (1 + (j + 1)), upd f (5 * k + j) (nI (sy q.2 (1 + j))), ⟨rfl, by omega, fun i hi => ?_, fun x hx => ?_⟩, fun K rc => ?_⟩
    · by_cases e : i = j
      · subst e; rw [pk_us, sy_drop]
      · rw [pk_un (by omega)]; exact a1 i (by omega)
    · rw [pk_un (by omega)]; exact a2 x hx
    · simp only [bX12_removeLeftRecursion_293, lt_, nI_1, fX12_symbol]
      rw [ag_ok hp, obs, h2, if_neg (nI_ge (by omega) (by omega)), n5, pk_mul, nI_add, ag_ok (show 5 * p + (1 + j) < 120 by omega), obs, obs, h3 _ (by omega), pk_mul, nI_add, nI_sub1 (show 0 < 5 * k + (1 + j) by omega), show 5 * k + (1 + j) - 1 = 5 * k + j by omega, as_ok (show 5 * k + j < 120 by omega), obs]
      rfl
  · rintro i f ⟨rfl, hb, a1, a2⟩
    refine ⟨fun K => K f, ⟨f, fun _ => rfl, fun i hi => a1 i (by omega), a2⟩, fun K rc => ?_⟩
    simp only [bX12_removeLeftRecursion_293]
    rw [ag_ok hp, obs, h2, if_pos (nI_le (by omega) (by omega))]
def rwU (n fr : Nat) (G : List gP) (j k : Nat) : gP := if k < j then uP n fr (gp G k) else gp G k
theorem gp_map (u : gP → gP) {k : Nat} (h : k < G.length) : gp (G.map u) k = u (gp G k) := by
  unfold gp
  rw [List.getD_eq_getElem?_getD, List.getD_eq_getElem?_getD, List.getElem?_map, List.getElem?_eq_getElem h]
  rfl
theorem fMr_len (n : Nat) : ∀ G : List gP, (G.flatMap (fMr n)).length ≤ G.length
  | [] => Nat.le_refl _
  | q :: G => by
    have ih := fMr_len n G
    rw [List.flatMap_cons, List.length_append, List.length_cons]
    have : (fMr n q).length ≤ 1 := by unfold fMr; split <;> simp
    omega
theorem m_rlRows (hM : RM rules lefts sizes rights G) (hG : okG G) {n fr : Nat} (hn : n < 8) (hU : okG (G.map (uP n fr))) (mv mz : Nat → Int32) (K) {N0 : Nat} (hN0 : 30 < N0) {N : Nat} (hN : 30 < N) : ∃ s' g' mv' mz', itr6 (bX12_removeLeftRecursion_227 N0 (nI n) rules lefts (nI fr) K) N 0 0 sizes rights mv mz = K (nI (G.flatMap (fMr n)).length) s' g' mv' mz' ∧ RM rules lefts s' g' (G.map (uP n fr)) ∧ MV mv' mz' (G.flatMap (fMr n)) := by
  have hl := hG.1
  have l5 : ∀ j k, k < G.length → (rwU n fr G j k).2.length ≤ 5 := fun j k hk => by
    unfold rwU
    split
    · have := (okG_gp hU (show k < (G.map (uP n fr)).length by rw [List.length_map]; exact hk)).2.1
      rw [gp_map _ hk] at this
      exact this
    · exact (okG_gp hG hk).2.1
  refine vlp6 (B := bX12_removeLeftRecursion_227 N0 (nI n) rules lefts (nI fr) K) (fun j c i s g f h => i = nI j ∧ j ≤ G.length ∧ c = nI ((G.take j).flatMap (fMr n)).length ∧ MV f h ((G.take j).flatMap (fMr n)) ∧ ∀ k, k < G.length → s k = nI (rwU n fr G j k).2.length ∧ ∀ i, i < (rwU n fr G j k).2.length → g (5 * k + i) = nI (sy (rwU n fr G j k).2 i)) (fun r => ∃ s' g' mv' mz', r = K (nI (G.flatMap (fMr n)).length) s' g' mv' mz' ∧ RM rules lefts s' g' (G.map (uP n fr)) ∧ MV mv' mz' (G.flatMap (fMr n))) G.length ?_ ?_ N 0 0 sizes rights mv mz (by omega) ⟨rfl, Nat.zero_le _, rfl, ⟨Nat.zero_le _, fun k hk => absurd hk (Nat.not_lt_zero _)⟩, fun k hk => (hM.2 k hk).2⟩
  · rintro j c i s g f h hj ⟨rfl, hb, rfl, hV, hr⟩
    left
    have hq := okG_gp hG hj
    have h8 := hq.1
    have h5 := hq.2.1
    have ej : rwU n fr G j j = gp G j := by unfold rwU; rw [if_neg (Nat.lt_irrefl _)]
    obtain ⟨r2, r3⟩ := hr j hj
    rw [ej] at r2 r3
    have hrec := m_isRecR hq (show j < 24 by omega) hn (hM.2 j hj).1 r2 r3
    have hft := fmv_take (fMr n) hj
    have hle := fMr_len n (G.take j)
    rw [List.length_take] at hle
    have other : ∀ k, k ≠ j → rwU n fr G (j + 1) k = rwU n fr G j k := fun k hk => by
      unfold rwU
      by_cases e : k < j
      · rw [if_pos e, if_pos (by omega)]
      · rw [if_neg e, if_neg (by omega)]
    have ej1 : rwU n fr G (j + 1) j = uP n fr (gp G j) := by unfold rwU; rw [if_pos (Nat.lt_succ_self _)]
    have same : uP n fr (gp G j) = gp G j → ∀ k, k < G.length → s k = nI (rwU n fr G (j + 1) k).2.length ∧ ∀ i, i < (rwU n fr G (j + 1) k).2.length → g (5 * k + i) = nI (sy (rwU n fr G (j + 1) k).2 i) := fun hu k hk => by
      by_cases e : k = j
      · subst e
        rw [ej1, hu]
        exact ⟨r2, r3⟩
      · rw [other k e]
        exact hr k hk
    by_cases en : (gp G j).1 = n
    · rcases Bool.eq_false_or_eq_true (rcP n (gp G j)) with her | her
      · have eX : fMr n (gp G j) = [(gp G j).2.drop 1] := by unfold fMr; rw [if_pos her]
        have er : recP (gp G j) = true := by
          unfold rcP at her
          rw [Bool.and_eq_true] at her
          exact her.2
        have hu : uP n fr (gp G j) = gp G j := by unfold uP; rw [if_neg (fun h => by rw [er] at h; exact absurd h.2 (by decide))]
        have h1 := (recP_pos er).1
        have hdl : ((gp G j).2.drop 1).length = (gp G j).2.length - 1 := List.length_drop
        rw [eX] at hft
        obtain ⟨f', c1, c2, c3⟩ := m_rlCopy hq (show j < 24 by omega) (k := ((G.take j).flatMap (fMr n)).length) (by omega) h1 r2 r3 f hN0
        have hV' := MV_app hV (by omega) (by omega) c2 c3
        rw [← hft] at hV'
        refine ⟨nI ((G.take (j + 1)).flatMap (fMr n)).length, nI (j + 1), s, g, f', _, ⟨rfl, by omega, rfl, hV', same hu⟩, fun rc => ?_⟩
        simp only [bX12_removeLeftRecursion_227, jn5, jn_, lt_, nI_1]
        rw [hM.1, if_neg (nI_ge hj (by omega)), ag_ok (show j < 24 by omega), obs, (hM.2 j hj).1, if_pos (by rw [en]), hrec, obs, her, if_neg (by decide), ag_ok (show j < 24 by omega), obs, r2, nI_sub1 h1, as_ok (by omega), obs, c1, hft, List.length_append, List.length_singleton, hdl]
      · have eX : fMr n (gp G j) = [] := by unfold fMr; rw [if_neg (by rw [her]; decide)]
        rw [eX, List.append_nil] at hft
        have er : recP (gp G j) = false := by
          unfold rcP at her
          rw [en] at her
          simpa using her
        have hu : uP n fr (gp G j) = ((gp G j).1, (gp G j).2 ++ [10 + fr]) := by unfold uP; rw [if_pos ⟨en, er⟩]
        have h4 : (gp G j).2.length ≤ 4 := by
          have := l5 (j + 1) j hj
          rw [ej1, hu] at this
          have e : ((gp G j).2 ++ [10 + fr]).length ≤ 5 := this
          rw [List.length_append, List.length_singleton] at e
          omega
        have hputs := m_puts (sizes := s) (rights := g) (show j < 24 by omega) (show (gp G j).2.length < 5 by omega) r2 ((10 : Int32) + nI fr)
        refine ⟨nI ((G.take (j + 1)).flatMap (fMr n)).length, nI (j + 1), upd s j (nI ((gp G j).2.length + 1)), upd g (5 * j + (gp G j).2.length) ((10 : Int32) + nI fr), f, h, ⟨rfl, by omega, rfl, by rw [hft]; exact hV, fun k hk => ?_⟩, fun rc => ?_⟩
        · by_cases e : k = j
          · subst e
            rw [ej1, hu]
            refine ⟨?_, fun i hi => ?_⟩
            · rw [pk_us]
              show nI _ = nI ((gp G k).2 ++ [10 + fr]).length
              rw [List.length_append, List.length_singleton]
            · have hi' : i < ((gp G k).2 ++ [10 + fr]).length := hi
              rw [List.length_append, List.length_singleton] at hi'
              show _ = nI (sy ((gp G k).2 ++ [10 + fr]) i)
              by_cases ei : i < (gp G k).2.length
              · rw [pk_un (by omega), sy_app_l ei]; exact r3 i ei
              · have : i = (gp G k).2.length := by omega
                subst this
                rw [pk_us, sy_app_end, n10, nI_add]
          · have := l5 j k hk
            rw [other k e, pk_un e]
            refine ⟨(hr k hk).1, fun i hi => ?_⟩
            rw [pk_un (by omega)]
            exact (hr k hk).2 i hi
        · simp only [bX12_removeLeftRecursion_227, jn5, jn_, lt_, nI_1]
          rw [hM.1, if_neg (nI_ge hj (by omega)), ag_ok (show j < 24 by omega), obs, (hM.2 j hj).1, if_pos (by rw [en]), hrec, obs, her, if_pos (by rfl), hputs, hft]
          rfl
    · have her : rcP n (gp G j) = false := by unfold rcP; simp [en]
      have eX : fMr n (gp G j) = [] := by unfold fMr; rw [if_neg (by rw [her]; decide)]
      rw [eX, List.append_nil] at hft
      have hu : uP n fr (gp G j) = gp G j := by unfold uP; rw [if_neg (fun h => en h.1)]
      refine ⟨nI ((G.take (j + 1)).flatMap (fMr n)).length, nI (j + 1), s, g, f, h, ⟨rfl, by omega, rfl, by rw [hft]; exact hV, same hu⟩, fun rc => ?_⟩
      simp only [bX12_removeLeftRecursion_227, jn5, jn_, lt_, nI_1]
      rw [hM.1, if_neg (nI_ge hj (by omega)), ag_ok (show j < 24 by omega), obs, (hM.2 j hj).1, if_neg (by rw [nI_eq (by omega) (by omega)]; exact en), hft]
  · rintro c i s g f h ⟨rfl, hb, rfl, hV, hr⟩
    rw [List.take_length] at hV
    refine ⟨_, ⟨s, g, f, h, rfl, ⟨by rw [List.length_map]; exact hM.1, fun k hk => ?_⟩, hV⟩, fun rc => ?_⟩
    · rw [List.length_map] at hk
      have := hr k hk
      unfold rwU at this
      rw [if_pos hk] at this
      rw [gp_map _ hk]
      refine ⟨?_, this.1, this.2⟩
      rw [(hM.2 k hk).1]
      unfold uP
      split <;> rfl
    · simp only [bX12_removeLeftRecursion_227]
      rw [hM.1, if_pos (Int32.le_refl _), List.take_length]
theorem m_rlDrops {H : List gP} (hM : RM rules lefts sizes rights H) (hH : okG H) {n : Nat} (hn : n < 8) (h1 : 0 < H.length) (K) {N0 : Nat} (hN0 : 30 < N0) {N : Nat} (hN : 30 < N) : ∃ r' l' s' g', itr5 (bX12_removeLeftRecursion_350 N0 (nI n) K) N (nI (H.length - 1)) rules lefts sizes rights = K r' l' s' g' ∧ RM r' l' s' g' (H.filter fun q => !rcP n q) := by
  have hl := hH.1
  refine vlp5 (B := bX12_removeLeftRecursion_350 N0 (nI n) K) (fun t i r l s g => i = nI (H.length - t) - 1 ∧ t ≤ H.length ∧ RM r l s g (dpL (fun q => !rcP n q) H (H.length - t))) (fun x => ∃ r' l' s' g', x = K r' l' s' g' ∧ RM r' l' s' g' (H.filter fun q => !rcP n q)) H.length ?_ ?_ N _ rules lefts sizes rights (by omega) ⟨by rw [Nat.sub_zero, nI_sub1 h1], Nat.zero_le _, by rw [Nat.sub_zero, dpL_all]; exact hM⟩
  · rintro t i r l s g ht ⟨rfl, hb, hr⟩
    left
    obtain ⟨p, hp⟩ : ∃ p, p = H.length - 1 - t := ⟨_, rfl⟩
    have hpl : p < H.length := by omega
    have e1 : H.length - t = p + 1 := by omega
    have e2 : H.length - (t + 1) = p := by omega
    rw [e1] at hr
    rw [e1, nI_sub1 (show 0 < p + 1 by omega), Nat.add_sub_cancel]
    have hsub := dpL_sub (fun q => !rcP n q) H (p + 1)
    have hGD := okG_sub hH hsub
    have hlD := dpL_len (G := H) (fun q => !rcP n q) (show p + 1 ≤ H.length by omega)
    have g1 := dpL_gp (G := H) (fun q => !rcP n q) (show p < p + 1 by omega) (by omega)
    obtain ⟨a1, a2, a3⟩ := hr.2 p (by omega)
    rw [g1] at a1 a2 a3
    have hrec := m_isRecR (okG_gp hH hpl) (show p < 24 by omega) hn a1 a2 a3
    have e4 : nI p + (-1) = nI (H.length - (t + 1)) - 1 := by rw [e2, Int32.sub_eq_add_neg]
    have hgo : ∀ rc : _ → _ → _ → _ → _ → Option lfT, bX12_removeLeftRecursion_350 N0 (nI n) K rc (nI p) r l s g = if rcP n (gp H p) = true then bd4 (fX12_drops N0 r l s g (nI p)) (fun a b c d => rc (nI (H.length - (t + 1)) - 1) a b c d) else rc (nI (H.length - (t + 1)) - 1) r l s g := by
      intro rc
      simp only [bX12_removeLeftRecursion_350, jn4, lt_]
      rw [if_neg (nI_pos (by omega)), hrec, obs, e4]
      rcases Bool.eq_false_or_eq_true (rcP n (gp H p)) with h | h
      · rw [h, if_neg (by decide), if_pos rfl]
      · rw [h, if_pos (by rfl), if_neg (by decide)]
    by_cases et : rcP n (gp H p) = true
    · obtain ⟨r', l', s', g', d1, d2⟩ := m_drops hr hGD (show p < _ by omega) hN0
      rw [dpL_drop hpl (by rw [et]; rfl)] at d2
      refine ⟨_, r', l', s', g', ⟨rfl, by omega, by rw [e2]; exact d2⟩, fun rc => ?_⟩
      rw [hgo, if_pos et, d1]
      rfl
    · rw [dpL_keep hpl (by simpa using et)] at hr
      refine ⟨_, r, l, s, g, ⟨rfl, by omega, by rw [e2]; exact hr⟩, fun rc => ?_⟩
      rw [hgo, if_neg et]
  · rintro i r l s g ⟨rfl, hb, hr⟩
    rw [Nat.sub_self] at hr
    have e0 : dpL (fun q => !rcP n q) H 0 = H.filter fun q => !rcP n q := by unfold dpL; simp
    rw [e0] at hr
    refine ⟨_, ⟨r, l, s, g, rfl, hr⟩, fun rc => ?_⟩
    simp only [bX12_removeLeftRecursion_350]
    rw [Nat.sub_self, if_pos (show nI 0 - 1 < (0 : Int32) by decide)]
theorem m_rlNew {H : List gP} (hR : RM rules lefts sizes rights H) {fr : Nat} {mv mz : Nat → Int32} {Lm : List (List Nat)} (hV : MV mv mz Lm) (hL4 : ∀ k, k < Lm.length → (Lm.getD k []).length ≤ 4) (hH : okG (H ++ Lm.map fun w => (fr, w ++ [10 + fr]))) (K) {N0 : Nat} (hN0 : 30 < N0) {N : Nat} (hN : 30 < N) : ∃ r' l' s' g', itr5 (bX12_removeLeftRecursion_380 N0 (nI fr) (nI Lm.length) mv mz K) N 0 rules lefts sizes rights = K r' l' s' g' ∧ RM r' l' s' g' (H ++ Lm.map fun w => (fr, w ++ [10 + fr])) := by
  have hle := hH.1
  rw [List.length_append, List.length_map] at hle
  refine vlp5 (B := bX12_removeLeftRecursion_380 N0 (nI fr) (nI Lm.length) mv mz K) (fun j i r l s g => i = nI j ∧ j ≤ Lm.length ∧ RM r l s g (H ++ (Lm.take j).map fun w => (fr, w ++ [10 + fr]))) (fun x => ∃ r' l' s' g', x = K r' l' s' g' ∧ RM r' l' s' g' (H ++ Lm.map fun w => (fr, w ++ [10 + fr]))) Lm.length ?_ ?_ N 0 rules lefts sizes rights (by omega) ⟨rfl, Nat.zero_le _, by simpa using hR⟩
  · rintro j i r l s g hj ⟨rfl, hb, hr⟩
    left
    have hsub : (H ++ (Lm.take j).map fun w => (fr, w ++ [10 + fr])).Sublist (H ++ Lm.map fun w => (fr, w ++ [10 + fr])) := List.Sublist.append (List.Sublist.refl _) ((List.take_sublist j Lm).map _)
    have hHj := okG_sub hH hsub
    have hlen : (H ++ (Lm.take j).map fun w => (fr, w ++ [10 + fr])).length = H.length + j := by
      rw [List.length_append, List.length_map, List.length_take]; omega
    obtain ⟨v1, v2, v3⟩ := hV.2 j hj
    have v4 := hL4 j hj
    have eLm : Lm.take (j + 1) = Lm.take j ++ [Lm.getD j []] := by
      rw [List.take_add_one, List.getD_eq_getElem?_getD, List.getElem?_eq_getElem hj]
      rfl
    have ho := m_opens hr (l := fr) (by rw [hlen]; omega)
    have eH : (H ++ (Lm.take j).map fun w => (fr, w ++ [10 + fr])) ++ [(fr, Lm.getD j [] ++ [10 + fr])] = H ++ (Lm.take (j + 1)).map fun w => (fr, w ++ [10 + fr]) := by
      rw [eLm, List.map_append, ← List.append_assoc]
      rfl
    generalize (H ++ (Lm.take j).map fun w => (fr, w ++ [10 + fr])) = D at *
    obtain ⟨s', g', p1, p2, p3, p4, p5⟩ := m_lfPut (sizes := upd s D.length 0) (rights := g) (mv := mv) (mz := mz) (k := j) (p := D.length) (m := (Lm.getD j []).length) (by have := hV.1; omega) (by rw [hlen]; omega) v1 v2 pk_us hN0
    have p1' : ∀ K' : (Nat → Int32) → (Nat → Int32) → Option lfT, itr3 (bX12_removeLeftRecursion_398 mv mz (nI j) (nI D.length) K') N0 0 (upd s D.length 0) g = K' s' g' := p1
    have hputs := m_puts (sizes := s') (rights := g') (show D.length < 24 by omega) (show (Lm.getD j []).length < 5 by omega) p2 ((10 : Int32) + nI fr)
    have hwl : (Lm.getD j [] ++ [10 + fr]).length = (Lm.getD j []).length + 1 := by rw [List.length_append, List.length_singleton]
    have hnew := RM_app (l := fr) (w := Lm.getD j [] ++ [10 + fr]) (s' := upd s' D.length (nI ((Lm.getD j []).length + 1))) (g' := upd g' (5 * D.length + (Lm.getD j []).length) ((10 : Int32) + nI fr)) hr hHj (by rw [hwl]; exact pk_us) (fun k hk => by rw [pk_un hk, p3 k hk, pk_un hk]) (fun i hi => by
      rw [hwl] at hi
      by_cases e : i < (Lm.getD j []).length
      · rw [pk_un (by omega), sy_app_l e, p4 i e]; exact v3 i e
      · have : i = (Lm.getD j []).length := by omega
        rw [this, pk_us, sy_app_end, n10, nI_add]) (fun x hx => by rw [pk_un (by omega)]; exact p5 x (Or.inl hx))
    rw [eH] at hnew
    refine ⟨nI (j + 1), _, _, _, _, ⟨rfl, by omega, hnew⟩, fun rc => ?_⟩
    simp only [bX12_removeLeftRecursion_380, jn2, lt_, nI_1]
    rw [if_neg (nI_ge hj (by omega)), ho]
    simp only [bd4, obs]
    rw [p1', hputs]
    rfl
  · rintro i r l s g ⟨rfl, hb, hr⟩
    rw [List.take_length] at hr
    refine ⟨_, ⟨r, l, s, g, rfl, hr⟩, fun rc => ?_⟩
    simp only [bX12_removeLeftRecursion_380]
    rw [if_pos (Int32.le_refl _)]
end MTV
