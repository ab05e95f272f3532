/-! THE REFERENCE'S left factoring: its loops -/
abbrev lfT : Type := Int32 × Int32 × (Nat → Int32) × (Nat → Int32) × (Nat → Int32) × Int32 × (Nat → Int32) × (Nat → Int32) × (Nat → Int32) × (Nat → Int32) × Int32 × (Nat → Int32) × (Nat → Int32) × Int32 × Int32 × (Nat → Int32) × (Nat → Int32) × Int32 × Int32 × (Nat → Int32) × (Nat → Int32) × (Nat → Int32) × (Nat → Int32) × (Nat → Int32) × Int32 × (Nat → Int32) × (Nat → Int32)
section MFA
variable {rules : Int32} {lefts sizes rights : Nat → Int32} {G : List gP}
theorem nI_addm1 {x : Nat} (h : 0 < x) : nI x + (-1) = nI (x - 1) := by
  rw [← nI_sub1 h, Int32.sub_eq_add_neg]
theorem b_eq0 (n m : Nat) : ((n == m) = true) ↔ n = m := by simp
theorem m_lfInner (hM : RM rules lefts sizes rights G) (hG : okG G) {n p : Nat} (hn : n < 8) (hp : p < G.length) {mo : Nat} (hmo : mo ≤ 4) (lo : Int32) (K) {N0 : Nat} (hN0 : 30 < N0) {N : Nat} (hN : 30 < N) : itr3 (bX12_leftFactor_28 N0 (nI n) rules lefts sizes rights (nI p) K) N (nI mo) lo 0 = K (nI (max mo (hA G n p))) (if mo < hA G n p then nI p else lo) := by
  have hl := hG.1
  refine vlp3 (B := bX12_leftFactor_28 N0 (nI n) rules lefts sizes rights (nI p) K) (fun j v a i => i = nI j ∧ j ≤ G.length ∧ v = nI (max mo (mxN (gC G n p) j)) ∧ a = if mo < mxN (gC G n p) j then nI p else lo) (fun r => r = K (nI (max mo (hA G n p))) (if mo < hA G n p then nI p else lo)) G.length ?_ ?_ N _ lo 0 (by omega) ⟨rfl, Nat.zero_le _, by simp [mxN], by simp [mxN]⟩
  · rintro j v a i hj ⟨rfl, hb, rfl, rfl⟩
    left
    have h4 := gC_le hG n hp hj
    have hm4 : mxN (gC G n p) j ≤ 4 := mxN_le _ fun q hq => gC_le hG n hp (by omega)
    have h8 := (okG_gp hG hp).1
    have h8' := (okG_gp hG hj).1
    refine ⟨nI (max mo (mxN (gC G n p) (j + 1))), if mo < mxN (gC G n p) (j + 1) then nI p else lo, nI (j + 1), ⟨rfl, by omega, rfl, rfl⟩, fun rc => ?_⟩
    simp only [bX12_leftFactor_28, jn2, lt_, nI_1]
    rw [hM.1, if_neg (nI_ge hj (by omega)), mxN_S]
    have same : gC G n p j = 0 → rc (nI (max mo (mxN (gC G n p) j))) (if mo < mxN (gC G n p) j then nI p else lo) (nI (j + 1)) = rc (nI (max mo (max (mxN (gC G n p) j) (gC G n p j)))) (if mo < max (mxN (gC G n p) j) (gC G n p j) then nI p else lo) (nI (j + 1)) := fun h => by
      rw [h, Nat.max_eq_left (Nat.zero_le (mxN (gC G n p) j))]
    by_cases e : p = j
    · rw [if_pos (by rw [e])]
      exact same (by unfold gC; rw [if_neg (fun h => h.1 e)])
    · rw [if_neg (by rw [nI_eq (by omega) (by omega)]; exact e), ag_ok (show p < 24 by omega), obs, (hM.2 p hp).1]
      by_cases e1 : (gp G p).1 = n
      · rw [if_pos (by rw [e1]), ag_ok (show j < 24 by omega), obs, (hM.2 j hj).1]
        by_cases e2 : (gp G j).1 = n
        · have eg : gC G n p j = cmn (gp G p).2 (gp G j).2 := by unfold gC; rw [if_pos ⟨e, e1, e2⟩]
          rw [if_pos (by rw [e2]), m_common hM hG hp hj hN0, obs, ← eg]
          by_cases e3 : max mo (mxN (gC G n p) j) < gC G n p j
          · rw [if_pos (nI_lt e3 (by omega)), obs, show max mo (max (mxN (gC G n p) j) (gC G n p j)) = gC G n p j by omega, if_pos (show mo < max (mxN (gC G n p) j) (gC G n p j) by omega)]
          · rw [if_neg (nI_nlt (by omega) (by omega)), show max mo (max (mxN (gC G n p) j) (gC G n p j)) = max mo (mxN (gC G n p) j) by omega]
            by_cases e4 : mo < mxN (gC G n p) j
            · rw [if_pos e4, if_pos (show mo < max (mxN (gC G n p) j) (gC G n p j) by omega)]
            · rw [if_neg e4, if_neg (show ¬ mo < max (mxN (gC G n p) j) (gC G n p j) by omega)]
        · rw [if_neg (by rw [nI_eq (by omega) (by omega)]; exact e2)]
          exact same (by unfold gC; rw [if_neg (fun h => e2 h.2.2)])
      · rw [if_neg (by rw [nI_eq (by omega) (by omega)]; exact e1)]
        exact same (by unfold gC; rw [if_neg (fun h => e1 h.2.1)])
  · rintro v a i ⟨rfl, hb, rfl, rfl⟩
    refine ⟨_, rfl, fun rc => ?_⟩
    simp only [bX12_leftFactor_28]
    rw [hM.1, if_pos (Int32.le_refl _)]
    rfl
def loL (G : List gP) (n : Nat) : Nat → Int32
  | 0 => -1
  | p + 1 => if mxN (hA G n) p < hA G n p then nI p else loL G n p
theorem loL_ex (G : List gP) (n : Nat) : ∀ k, 0 < mxN (hA G n) k → ∃ lw, lw < k ∧ loL G n k = nI lw ∧ hA G n lw = mxN (hA G n) k ∧ ∀ p, p < lw → hA G n p ≠ mxN (hA G n) k
  | 0, h => absurd h (Nat.lt_irrefl _)
  | k + 1, h => by
    rw [mxN_S] at h ⊢
    simp only [loL]
    by_cases e : mxN (hA G n) k < hA G n k
    · rw [if_pos e]
      refine ⟨k, by omega, rfl, by omega, fun p hp => ?_⟩
      have := le_mxN (hA G n) k p hp
      omega
    · rw [if_neg e]
      obtain ⟨lw, h1, h2, h3, h4⟩ := loL_ex G n k (by omega)
      refine ⟨lw, by omega, h2, by omega, fun p hp => ?_⟩
      have := h4 p hp
      omega
theorem hA_le (hG : okG G) (n : Nat) {p : Nat} (hp : p < G.length) : hA G n p ≤ 4 := mxN_le _ fun q hq => gC_le hG n hp hq
theorem m_lfOuter (hM : RM rules lefts sizes rights G) (hG : okG G) {n : Nat} (hn : n < 8) (K) {N0 : Nat} (hN0 : 30 < N0) {N : Nat} (hN : 30 < N) : itr3 (bX12_leftFactor_16 N0 (nI n) rules lefts sizes rights K) N 0 (-1) 0 = K (nI (mxN (hA G n) G.length)) (loL G n G.length) := by
  have hl := hG.1
  refine vlp3 (B := bX12_leftFactor_16 N0 (nI n) rules lefts sizes rights K) (fun j v a i => i = nI j ∧ j ≤ G.length ∧ v = nI (mxN (hA G n) j) ∧ a = loL G n j) (fun r => r = K (nI (mxN (hA G n) G.length)) (loL G n G.length)) G.length ?_ ?_ N 0 (-1) 0 (by omega) ⟨rfl, Nat.zero_le _, rfl, rfl⟩
  · rintro j v a i hj ⟨rfl, hb, rfl, rfl⟩
    left
    have hm4 : mxN (hA G n) j ≤ 4 := mxN_le _ fun q hq => hA_le hG n (by omega)
    refine ⟨nI (mxN (hA G n) (j + 1)), loL G n (j + 1), nI (j + 1), ⟨rfl, by omega, rfl, rfl⟩, fun rc => ?_⟩
    simp only [bX12_leftFactor_16, jn2, lt_, nI_1]
    have hr : ¬ rules ≤ nI j := by rw [hM.1]; exact nI_ge hj (by omega)
    rw [if_neg hr, m_lfInner hM hG hn hj hm4 _ _ hN0 hN0, mxN_S]
    rfl
  · rintro v a i ⟨rfl, hb, rfl, rfl⟩
    refine ⟨_, rfl, fun rc => ?_⟩
    simp only [bX12_leftFactor_16]
    rw [hM.1, if_pos (Int32.le_refl _)]
/-- right sides laid aside -/
def MV (mv mz : Nat → Int32) (Lm : List (List Nat)) : Prop := Lm.length ≤ 24 ∧ ∀ k, k < Lm.length → (Lm.getD k []).length ≤ 5 ∧ mz k = nI (Lm.getD k []).length ∧ ∀ i, i < (Lm.getD k []).length → mv (5 * k + i) = nI (sy (Lm.getD k []) i)
theorem MV_app {mv mz mv' : Nat → Int32} {Lm : List (List Nat)} {w : List Nat} (h : MV mv mz Lm) (h24 : Lm.length < 24) (h5 : w.length ≤ 5) (h1 : ∀ i, i < w.length → mv' (5 * Lm.length + i) = nI (sy w i)) (h2 : ∀ x, x < 5 * Lm.length → mv' x = mv x) : MV mv' (upd mz Lm.length (nI w.length)) (Lm ++ [w]) := by
  refine ⟨by rw [List.length_append, List.length_singleton]; omega, fun k hk => ?_⟩
  rw [List.length_append, List.length_singleton] at hk
  by_cases e : k < Lm.length
  · have eg : (Lm ++ [w]).getD k [] = Lm.getD k [] := by
      rw [List.getD_eq_getElem?_getD, List.getD_eq_getElem?_getD, List.getElem?_append_left e]
    obtain ⟨a, b, c⟩ := h.2 k e
    rw [eg, pk_un (by omega)]
    exact ⟨a, b, fun i hi => by rw [h2 _ (by omega)]; exact c i hi⟩
  · have : k = Lm.length := by omega
    subst this
    have eg : (Lm ++ [w]).getD Lm.length [] = w := by
      rw [List.getD_eq_getElem?_getD, List.getElem?_append_right (Nat.le_refl _), Nat.sub_self]
      rfl
    rw [eg, pk_us]
    exact ⟨h5, rfl, h1⟩
theorem m_lfCopy (hM : RM rules lefts sizes rights G) (hG : okG G) {p M k : Nat} (hp : p < G.length) (hMl : M ≤ (gp G p).2.length) (hk : k < 24) (mv : Nat → Int32) (K) {N : Nat} (hN : 30 < N) : ∃ mv', itr2 (bX12_leftFactor_231 sizes rights (nI M) (nI k) (nI p) K) N (nI M) mv = K mv' ∧ (∀ i, i < ((gp G p).2.drop M).length → mv' (5 * k + i) = nI (sy ((gp G p).2.drop M) i)) ∧ ∀ x, x < 5 * k → mv' x = mv x := by
  have hl := hG.1
  have h5 := (okG_gp hG hp).2.1
  have hdl : ((gp G p).2.drop M).length = (gp G p).2.length - M := List.length_drop
  refine vlp2 (B := bX12_leftFactor_231 sizes rights (nI M) (nI k) (nI p) K) (fun j i f => i = nI (M + j) ∧ M + j ≤ (gp G p).2.length ∧ (∀ i, i < j → f (5 * k + i) = nI (sy ((gp G p).2.drop M) i)) ∧ ∀ x, x < 5 * k → f x = mv x) (fun r => ∃ mv', r = K mv' ∧ (∀ i, i < ((gp G p).2.drop M).length → mv' (5 * k + i) = nI (sy ((gp G p).2.drop M) i)) ∧ ∀ x, x < 5 * k → mv' x = mv x) ((gp G p).2.length - M) ?_ ?_ N _ mv (by omega) ⟨rfl, by omega, fun i hi => absurd hi (Nat.not_lt_zero _), fun _ _ => rfl⟩
  · rintro j i f hj ⟨rfl, hb, a1, a2⟩
    left
    refine ⟨nI (M + (j + 1)), upd f (5 * k + j) (nI (sy (gp G p).2 (M + j))), ⟨rfl, by omega, fun i hi => ?_, fun x hx => ?_⟩, fun rc => ?_⟩
    · by_cases e : i = j
      · subst e; rw [pk_us, sy_drop]
      · rw [pk_un (by omega)]; exact a1 i (by omega)
    · rw [pk_un (by omega)]; exact a2 x hx
    · simp only [bX12_leftFactor_231, lt_, nI_1]
      rw [ag_ok (show p < 24 by omega), obs, (hM.2 p hp).2.1, if_neg (nI_ge (by omega) (by omega)), m_symbol hM hG hp (by omega), obs, n5, pk_mul, nI_add, pk_sub (b := M) (show M ≤ 5 * k + (M + j) by omega), show 5 * k + (M + j) - M = 5 * k + j by omega, as_ok (show 5 * k + j < 120 by omega), obs]
      rfl
  · rintro i f ⟨rfl, hb, a1, a2⟩
    refine ⟨_, ⟨f, rfl, fun i hi => a1 i (by omega), a2⟩, fun rc => ?_⟩
    simp only [bX12_leftFactor_231]
    rw [ag_ok (show p < 24 by omega), obs, (hM.2 p hp).2.1, if_pos (nI_le (by omega) (by omega))]
def fMv (n M : Nat) (q0 q : gP) : List (List Nat) := if tP n M q0 q = true then [q.2.drop M] else []
theorem fmv_take {G : List gP} (f : gP → List (List Nat)) {j : Nat} (h : j < G.length) : (G.take (j + 1)).flatMap f = (G.take j).flatMap f ++ f (gp G j) := by
  rw [take_gp h, List.flatMap_append]
  congr 1
  simp
theorem fMv_len (n M : Nat) (q0 : gP) : ∀ G : List gP, (G.flatMap (fMv n M q0)).length ≤ G.length
  | [] => Nat.le_refl _
  | q :: G => by
    have ih := fMv_len n M q0 G
    rw [List.flatMap_cons, List.length_append, List.length_cons]
    have : (fMv n M q0 q).length ≤ 1 := by unfold fMv; split <;> simp
    omega
theorem m_lfMoved (hM : RM rules lefts sizes rights G) (hG : okG G) {n M lw : Nat} (hn : n < 8) (hlw : lw < G.length) (h0 : tP n M (gp G lw) (gp G lw) = true) (hb4 : ∀ p, p < lw → tP n M (gp G lw) (gp G p) = false) (mv mz : Nat → Int32) (K) {N0 : Nat} (hN0 : 30 < N0) {N : Nat} (hN : 30 < N) : ∃ mv' mz', itr4 (bX12_leftFactor_172 N0 (nI n) rules lefts sizes rights (nI M) (nI lw) K) N 0 (nI lw) mv mz = K (nI (G.flatMap (fMv n M (gp G lw))).length) mv' mz' ∧ MV mv' mz' (G.flatMap (fMv n M (gp G lw))) := by
  have hl := hG.1
  have hz : (G.take lw).flatMap (fMv n M (gp G lw)) = [] := by
    rw [List.flatMap_eq_nil_iff]
    intro q hq
    obtain ⟨p, hp, e⟩ := List.getElem_of_mem hq
    rw [List.length_take] at hp
    have : gp G p = q := by
      rw [← e, List.getElem_take]
      simp [gp, List.getD, show p < G.length by omega]
    unfold fMv
    rw [← this, hb4 p (by omega)]
    rfl
  refine vlp4 (B := bX12_leftFactor_172 N0 (nI n) rules lefts sizes rights (nI M) (nI lw) K) (fun j c i f g => i = nI (lw + j) ∧ lw + j ≤ G.length ∧ c = nI ((G.take (lw + j)).flatMap (fMv n M (gp G lw))).length ∧ MV f g ((G.take (lw + j)).flatMap (fMv n M (gp G lw)))) (fun r => ∃ mv' mz', r = K (nI (G.flatMap (fMv n M (gp G lw))).length) mv' mz' ∧ MV mv' mz' (G.flatMap (fMv n M (gp G lw)))) (G.length - lw) ?_ ?_ N 0 _ mv mz (by omega) ⟨rfl, by omega, by rw [Nat.add_zero, hz]; rfl, by rw [Nat.add_zero, hz]; exact ⟨Nat.zero_le _, fun k hk => absurd hk (Nat.not_lt_zero _)⟩⟩
  · rintro j c i f g hj ⟨rfl, hb, rfl, hv⟩
    left
    have hp : lw + j < G.length := by omega
    have hq := okG_gp hG hp
    have h8 := hq.1
    have h5 := hq.2.1
    have hft := fmv_take (fMv n M (gp G lw)) hp
    have hle := fMv_len n M (gp G lw) (G.take (lw + j))
    rw [List.length_take] at hle
    have hcm := (cmn_le (gp G (lw + j)).2 (gp G lw).2).1
    have hcond : ∀ A B : Option lfT, (if nI (gp G (lw + j)).1 = nI n then (if nI (lw + j) = nI lw then A else ((fX12_common N0 sizes rights (nI (lw + j)) (nI lw)).bind fun x117 => if nI M ≤ x117 then A else B)) else B) = if tP n M (gp G lw) (gp G (lw + j)) = true then A else B := by
      intro A B
      by_cases e1 : (gp G (lw + j)).1 = n
      · rw [if_pos (by rw [e1])]
        by_cases e2 : lw + j = lw
        · rw [if_pos (by rw [e2]), e2, if_pos h0]
        · rw [if_neg (by rw [nI_eq (by omega) (by omega)]; exact e2), m_common hM hG hp hlw hN0, obs]
          by_cases e3 : M ≤ cmn (gp G (lw + j)).2 (gp G lw).2
          · rw [if_pos (nI_le e3 (by omega)), if_pos (show tP n M (gp G lw) (gp G (lw + j)) = true by unfold tP; simp [e1, e3])]
          · rw [if_neg (nI_ge (by omega) (by
              unfold tP at h0
              rw [Bool.and_eq_true, decide_eq_true_eq, cmn_self] at h0
              have := (okG_gp hG hlw).2.1
              omega)), if_neg (show ¬ tP n M (gp G lw) (gp G (lw + j)) = true by unfold tP; simp [e3])]
      · rw [if_neg (by rw [nI_eq (by omega) (by omega)]; exact e1), if_neg (show ¬ tP n M (gp G lw) (gp G (lw + j)) = true by unfold tP; simp [e1])]
    by_cases et : tP n M (gp G lw) (gp G (lw + j)) = true
    · have eX : fMv n M (gp G lw) (gp G (lw + j)) = [(gp G (lw + j)).2.drop M] := by unfold fMv; rw [if_pos et]
      have et' := et
      unfold tP at et'
      rw [Bool.and_eq_true, beq_iff_eq, decide_eq_true_eq] at et'
      have hMl : M ≤ (gp G (lw + j)).2.length := by omega
      have hdl : ((gp G (lw + j)).2.drop M).length = (gp G (lw + j)).2.length - M := List.length_drop
      rw [eX] at hft
      have key : ∀ K' : (Nat → Int32) → Option lfT, ∃ mv', itr2 (bX12_leftFactor_231 sizes rights (nI M) (nI ((G.take (lw + j)).flatMap (fMv n M (gp G lw))).length) (nI (lw + j)) K') N0 (nI M) f = K' mv' ∧ MV mv' (upd g ((G.take (lw + j)).flatMap (fMv n M (gp G lw))).length (nI ((gp G (lw + j)).2.drop M).length)) ((G.take (lw + j)).flatMap (fMv n M (gp G lw)) ++ [(gp G (lw + j)).2.drop M]) := by
        intro K'
        obtain ⟨mv', a1, a2, a3⟩ := m_lfCopy hM hG hp hMl (k := ((G.take (lw + j)).flatMap (fMv n M (gp G lw))).length) (by omega) f K' hN0
        exact ⟨mv', a1, MV_app hv (by omega) (by omega) a2 a3⟩
      obtain ⟨mv', _, a2⟩ := key (fun _ => none)
      have key2 : ∀ K' : (Nat → Int32) → Option lfT, itr2 (bX12_leftFactor_231 sizes rights (nI M) (nI ((G.take (lw + j)).flatMap (fMv n M (gp G lw))).length) (nI (lw + j)) K') N0 (nI M) f = K' (foldN (fun t h => upd h (5 * ((G.take (lw + j)).flatMap (fMv n M (gp G lw))).length + t) (nI (sy (gp G (lw + j)).2 (M + t)))) ((gp G (lw + j)).2.length - M) f) := by
        intro K'
        refine vlp2 (B := bX12_leftFactor_231 sizes rights (nI M) (nI ((G.take (lw + j)).flatMap (fMv n M (gp G lw))).length) (nI (lw + j)) K') (fun t i h => i = nI (M + t) ∧ M + t ≤ (gp G (lw + j)).2.length ∧ h = foldN (fun t h => upd h (5 * ((G.take (lw + j)).flatMap (fMv n M (gp G lw))).length + t) (nI (sy (gp G (lw + j)).2 (M + t)))) t f) (fun r => r = K' (foldN (fun t h => upd h (5 * ((G.take (lw + j)).flatMap (fMv n M (gp G lw))).length + t) (nI (sy (gp G (lw + j)).2 (M + t)))) ((gp G (lw + j)).2.length - M) f)) ((gp G (lw + j)).2.length - M) ?_ ?_ N0 _ f (by omega) ⟨rfl, by omega, rfl⟩
        · rintro t i h ht ⟨rfl, hb, rfl⟩
          left
          refine ⟨nI (M + (t + 1)), _, ⟨rfl, by omega, rfl⟩, fun rc => ?_⟩
          simp only [bX12_leftFactor_231, lt_, nI_1, foldN]
          generalize foldN (fun t h => upd h (5 * ((G.take (lw + j)).flatMap (fMv n M (gp G lw))).length + t) (nI (sy (gp G (lw + j)).2 (M + t)))) t f = h
          rw [ag_ok (show lw + j < 24 by omega), obs, (hM.2 _ hp).2.1, if_neg (nI_ge (by omega) (by omega)), m_symbol hM hG hp (by omega), obs, n5, pk_mul, nI_add, pk_sub (b := M) (by omega), show 5 * ((G.take (lw + j)).flatMap (fMv n M (gp G lw))).length + (M + t) - M = 5 * ((G.take (lw + j)).flatMap (fMv n M (gp G lw))).length + t by omega, as_ok (show 5 * ((G.take (lw + j)).flatMap (fMv n M (gp G lw))).length + t < 120 by omega), obs]
          rfl
        · rintro i h ⟨rfl, hb, rfl⟩
          refine ⟨_, rfl, fun rc => ?_⟩
          simp only [bX12_leftFactor_231]
          rw [ag_ok (show lw + j < 24 by omega), obs, (hM.2 _ hp).2.1, if_pos (nI_le (by omega) (by omega))]
      obtain ⟨mv2, a3, a4⟩ := key (fun h => some (0, 0, h, h, h, 0, h, h, h, h, 0, h, h, 0, 0, h, h, 0, 0, h, h, h, h, h, 0, h, h))
      rw [key2] at a3
      injection a3 with a3
      injection a3 with _ a3
      injection a3 with _ a3
      injection a3 with a3 _
      rw [← a3] at a4
      refine ⟨nI ((G.take (lw + (j + 1))).flatMap (fMv n M (gp G lw))).length, nI (lw + (j + 1)), _, _, ⟨rfl, by omega, rfl, by rw [show lw + (j + 1) = lw + j + 1 by omega, hft]; exact a4⟩, fun rc => ?_⟩
      simp only [bX12_leftFactor_172, jn3, jn_, lt_, nI_1]
      rw [hM.1, if_neg (nI_ge hp (by omega)), ag_ok (show lw + j < 24 by omega), obs, (hM.2 _ hp).1, hcond, if_pos et, ag_ok (show lw + j < 24 by omega), obs, (hM.2 _ hp).2.1, pk_sub (b := M) hMl, as_ok (by omega), obs, key2, show lw + (j + 1) = lw + j + 1 by omega, hft, List.length_append, List.length_singleton, hdl]
    · have eX : fMv n M (gp G lw) (gp G (lw + j)) = [] := by unfold fMv; rw [if_neg et]
      rw [eX, List.append_nil] at hft
      refine ⟨nI ((G.take (lw + (j + 1))).flatMap (fMv n M (gp G lw))).length, nI (lw + (j + 1)), f, g, ⟨rfl, by omega, rfl, by rw [show lw + (j + 1) = lw + j + 1 by omega, hft]; exact hv⟩, fun rc => ?_⟩
      simp only [bX12_leftFactor_172, jn3, jn_, lt_, nI_1]
      rw [hM.1, if_neg (nI_ge hp (by omega)), ag_ok (show lw + j < 24 by omega), obs, (hM.2 _ hp).1, hcond, if_neg et, show lw + (j + 1) = lw + j + 1 by omega, hft]
  · rintro c i f g ⟨rfl, hb, rfl, hv⟩
    have e : lw + (G.length - lw) = G.length := by omega
    rw [e, List.take_length] at hv
    refine ⟨_, ⟨f, g, rfl, hv⟩, fun rc => ?_⟩
    simp only [bX12_leftFactor_172]
    rw [e, hM.1, if_pos (Int32.le_refl _), List.take_length]
end MFA
