/-! THE CLASS'S shared prefixes; the unused nonterminal on both sides; counts of productions -/
section UN
variable {codes : Nat → Int32} {count rules : Int32} {lefts sizes rights : Nat → Int32} {G : List gP}
theorem mxN_S (f : Nat → Nat) (k : Nat) : mxN f (k + 1) = max (mxN f k) (f k) := rfl
theorem gA_le (hG : okG G) (n : Nat) {p q : Nat} (hp : p < G.length) (hq : q < G.length) : gA G n p q ≤ 4 := by
  unfold gA
  split
  · exact gC_le hG n hp hq
  · omega
theorem shA_le (hG : okG G) (n : Nat) {p : Nat} (hp : p < G.length) : shA G n p ≤ 4 := mxN_le _ fun q hq => gA_le hG n hp hq
theorem c_shared (hc : RC codes count G) (hG : okG G) {n p : Nat} (hn : n < 8) (hp : p < G.length) {N : Nat} (hN : 30 < N) : fX6_prefixSharedAfter N codes count (nI p) (nI n) = some (nI (shA G n p)) := by
  have hl := hG.1
  have z : mxN (gA G n p) (p + 1) = 0 := mxN_zero fun i hi => by unfold gA; rw [if_neg (by omega)]
  simp only [fX6_prefixSharedAfter, lt_, jn_, nI_1]
  by_cases hpn : (gp G p).1 = n
  · refine vlp2 (B := bX6_prefixSharedAfter_7 N (nI p) (nI n) codes count fun v => some v) (fun j v i => i = nI (p + 1 + j) ∧ p + 1 + j ≤ G.length ∧ v = nI (mxN (gA G n p) (p + 1 + j))) (fun r => r = some (nI (shA G n p))) (G.length - (p + 1)) ?_ ?_ N 0 _ (by omega) ⟨rfl, by omega, by rw [Nat.add_zero, z]; rfl⟩
    · rintro j v i hj ⟨rfl, hb, rfl⟩
      left
      have hm : mxN (gA G n p) (p + 1 + j) ≤ 4 := mxN_le _ fun q hq => gA_le hG n hp (by omega)
      refine ⟨nI (mxN (gA G n p) (p + 1 + (j + 1))), nI (p + 1 + (j + 1)), ⟨rfl, by omega, rfl⟩, fun rc => ?_⟩
      have hq : p + 1 + j < G.length := by omega
      simp only [bX6_prefixSharedAfter_7, jn_]
      rw [hc.1, if_neg (nI_ge hq (by omega)), ag_ok (show p < 24 by omega), hc.2 p hp, obs, c_isOf (okG_gp hG hp) (by omega), obs, if_neg (by rw [hpn]; simp [b01]), ag_ok (show p + 1 + j < 24 by omega), hc.2 _ hq, obs, c_isOf (okG_gp hG hq) (by omega), obs]
      rw [show p + 1 + (j + 1) = p + 1 + j + 1 by omega, mxN_S]
      by_cases hqn : (gp G (p + 1 + j)).1 = n
      · have eg : gA G n p (p + 1 + j) = cmn (gp G p).2 (gp G (p + 1 + j)).2 := by
          unfold gA gC
          rw [if_pos (by omega), if_pos ⟨by omega, hpn, hqn⟩]
        have hc4 := gA_le hG n hp hq
        rw [if_neg (by rw [hqn]; simp [b01]), obs, obs, c_common (okG_gp hG hp) (okG_gp hG hq) hN, obs, eg]
        rw [eg] at hc4
        simp only [lt_, nI_1]
        rw [mx_nI (by omega) (by omega)]
      · have eg : gA G n p (p + 1 + j) = 0 := by
          unfold gA gC
          rw [if_pos (by omega), if_neg (fun h => hqn h.2.2)]
        rw [if_pos (by simp [b01, hqn]), eg, Nat.max_eq_left (Nat.zero_le _)]
        simp only [lt_, nI_1]
    · rintro v i ⟨rfl, hb, rfl⟩
      have e : p + 1 + (G.length - (p + 1)) = G.length := by omega
      refine ⟨_, rfl, fun rc => ?_⟩
      simp only [bX6_prefixSharedAfter_7]
      rw [e, hc.1, if_pos (Int32.le_refl _)]
      rfl
  · have e0 : shA G n p = 0 := mxN_zero fun q hq => by
      unfold gA gC
      split
      · rw [if_neg (fun h => hpn h.2.1)]
      · rfl
    obtain ⟨M, rfl⟩ : ∃ M, N = M + 1 := ⟨N - 1, by omega⟩
    rw [itr2_S, e0]
    simp only [bX6_prefixSharedAfter_7, jn_]
    by_cases hq : p + 1 < G.length
    · rw [hc.1, if_neg (nI_ge hq (by omega)), ag_ok (show p < 24 by omega), hc.2 p hp, obs, c_isOf (okG_gp hG hp) (by omega), obs, if_pos (by simp [b01, hpn])]
      rfl
    · rw [hc.1, if_pos (nI_le (by omega) (by omega))]
      rfl
theorem c_longest (hc : RC codes count G) (hG : okG G) {n : Nat} (hn : n < 8) {N : Nat} (hN : 30 < N) : fX6_longestCommonPrefix N codes count (nI n) = some (nI (mxN (shA G n) G.length)) := by
  have hl := hG.1
  simp only [fX6_longestCommonPrefix, jn_]
  refine vlp2 (B := bX6_longestCommonPrefix_4 N (nI n) codes count fun v => some v) (fun j v i => i = nI j ∧ j ≤ G.length ∧ v = nI (mxN (shA G n) j)) (fun r => r = some (nI (mxN (shA G n) G.length))) G.length ?_ ?_ N 0 0 (by omega) ⟨rfl, by omega, rfl⟩
  · rintro j v i hj ⟨rfl, hb, rfl⟩
    left
    have hm : mxN (shA G n) j ≤ 4 := mxN_le _ fun q hq => shA_le hG n (by omega)
    have hs := shA_le hG n hj
    refine ⟨nI (mxN (shA G n) (j + 1)), nI (j + 1), ⟨rfl, by omega, rfl⟩, fun rc => ?_⟩
    simp only [bX6_longestCommonPrefix_4, lt_, nI_1]
    rw [hc.1, if_neg (nI_ge hj (by omega)), ← hc.1, c_shared hc hG hn hj hN, obs, mx_nI (by omega) (by omega), mxN_S]
  · rintro v i ⟨rfl, hb, rfl⟩
    refine ⟨_, rfl, fun rc => ?_⟩
    simp only [bX6_longestCommonPrefix_4]
    rw [hc.1, if_pos (Int32.le_refl _)]
theorem c_lead (hc : RC codes count G) (hG : okG G) {n M lw : Nat} (hn : n < 8) (hlw : lw < G.length) (h1 : shA G n lw = M) (h2 : ∀ p, p < lw → shA G n p ≠ M) {N : Nat} (hN : 30 < N) : fX6_leadWithPrefix N codes count (nI n) (nI M) = some (nI (enc (gp G lw))) := by
  have hl := hG.1
  have hM := shA_le hG n hlw
  simp only [fX6_leadWithPrefix, jn_]
  refine vlp1 (B := bX6_leadWithPrefix_2 N (nI n) (nI M) codes count fun _ => some (-1)) (fun j v => v = nI j ∧ j ≤ lw) (fun r => r = some (nI (enc (gp G lw)))) lw ?_ ?_ N 0 (by omega) ⟨rfl, Nat.zero_le _⟩
  · rintro j v hj ⟨rfl, hb⟩
    left
    have hs := shA_le hG n (show j < G.length by omega)
    refine ⟨nI (j + 1), ⟨rfl, by omega⟩, fun rc => ?_⟩
    simp only [bX6_leadWithPrefix_2, lt_, nI_1]
    rw [hc.1, if_neg (nI_ge (by omega) (by omega)), ← hc.1, c_shared hc hG hn (by omega) hN, obs, if_neg (by rw [nI_eq (by omega) (by omega)]; exact h2 j hj)]
  · rintro v ⟨rfl, hb⟩
    refine ⟨_, rfl, fun rc => ?_⟩
    simp only [bX6_leadWithPrefix_2]
    rw [hc.1, if_neg (nI_ge (by omega) (by omega)), ← hc.1, c_shared hc hG hn hlw hN, obs, h1, if_pos rfl, ag_ok (show lw < 24 by omega), hc.2 lw hlw, obs]
def stU (G : List gP) (p : Nat) (s : Int32) : Int32 := s ||| (bitI (gp G p).1 ||| ntI (gp G p).2)
def usedI (G : List gP) (n : Nat) : Int32 := foldN (stU G) G.length (1 ||| bitI n)
def freI (G : List gP) (n : Nat) : Option Nat := fstI (fun k => !tb (usedI G n) k) 8
theorem c_unused (hc : RC codes count G) (hG : okG G) (n : Nat) {N : Nat} (hN : 30 < N) : fX6_unusedNonterminal N codes count (nI n) = some (oI (freI G n)) := by
  have hl := hG.1
  simp only [fX6_unusedNonterminal, lt_, jn_]
  refine vlp2 (B := bX6_unusedNonterminal_8 N codes count fun v2 => itr (bX6_unusedNonterminal_48 v2 fun _ => some (-1)) N 0) (fun j v i => i = nI j ∧ j ≤ G.length ∧ v = foldN (stU G) j (1 ||| bitI n)) (fun r => r = some (oI (freI G n))) G.length ?_ ?_ N _ 0 (by omega) ⟨rfl, by omega, rfl⟩
  · rintro j v i hj ⟨rfl, hb, rfl⟩
    left
    refine ⟨foldN (stU G) (j + 1) (1 ||| bitI n), nI (j + 1), ⟨rfl, by omega, rfl⟩, fun rc => ?_⟩
    simp only [bX6_unusedNonterminal_8, lt_, nI_1, foldN]
    generalize foldN (stU G) j (1 ||| bitI n) = s
    rw [hc.1, if_neg (nI_ge hj (by omega)), ag_ok (show j < 24 by omega), hc.2 j hj, obs, c_leftOf (okG_gp hG hj), obs, c_nonterminalsIn (okG_gp hG hj) hN, obs]
    rfl
  · rintro v i ⟨rfl, hb, rfl⟩
    refine ⟨itr (bX6_unusedNonterminal_48 (usedI G n) fun _ => some (-1)) N 0, ?_, fun rc => ?_⟩
    · have hs := srch (B := bX6_unusedNonterminal_48 (usedI G n) (fun _ => some (-1))) 8 N (by omega) (fun k => !tb (usedI G n) k) (fun k => some (nI k)) (some (-1)) ?_ ?_
      · refine Eq.trans hs ?_
        unfold freI
        cases fstI (fun k => !tb (usedI G n) k) 8 <;> rfl
      · intro i hi rc
        simp only [bX6_unusedNonterminal_48]
        rw [if_neg (nleL 8 8 hi), c_bit, obs]
        cases h : tb (usedI G n) i with
        | true => rw [if_neg (by decide), if_neg (by decide)]; simp only [lt_, nI_1]
        | false => rw [if_pos (by rfl), if_pos (by rfl)]
      · intro rc
        simp only [bX6_unusedNonterminal_48]
        rw [if_pos (by decide)]
    · simp only [bX6_unusedNonterminal_8]
      rw [hc.1, if_pos (Int32.le_refl _)]
      rfl
theorem m_unInner (hM : RM rules lefts sizes rights G) (hG : okG G) {p : Nat} (hp : p < G.length) (s : Int32) (K : Int32 → Option Int32) {N : Nat} (hN : 30 < N) : itr2 (bX12_unused_30 sizes rights (nI p) K) N s 0 = K (s ||| ntI (gp G p).2) := by
  have hl := hG.1
  have hq := okG_gp hG hp
  have h5 := hq.2.1
  refine vlp2 (B := bX12_unused_30 sizes rights (nI p) K) (fun j v i => i = nI j ∧ j ≤ (gp G p).2.length ∧ v = s ||| ntI ((gp G p).2.take j)) (fun r => r = K (s ||| ntI (gp G p).2)) (gp G p).2.length ?_ ?_ N s 0 (by omega) ⟨rfl, Nat.zero_le _, by show s = s ||| (0 : Int32); rw [Int32.or_zero]⟩
  · rintro j v i hj ⟨rfl, hb, rfl⟩
    left
    have hs18 := okS_lt (okP_sy hq hj)
    refine ⟨s ||| ntI ((gp G p).2.take (j + 1)), nI (j + 1), ⟨rfl, by omega, rfl⟩, fun rc => ?_⟩
    rw [ntI_take hj]
    simp only [bX12_unused_30, jn_, lt_, nI_1]
    rw [ag_ok (show p < 24 by omega), obs, (hM.2 p hp).2.1, if_neg (nI_ge hj (by omega)), m_symbol hM hG hp hj, obs, obs]
    by_cases h10 : sy (gp G p).2 j < 10
    · rw [if_pos (lt10 h10), if_pos h10, Int32.or_assoc]
    · rw [if_neg (nlt10 h10 hs18), if_neg h10, sub10 h10, Int32.or_assoc]
      rfl
  · rintro v i ⟨rfl, hb, rfl⟩
    refine ⟨_, rfl, fun rc => ?_⟩
    simp only [bX12_unused_30]
    rw [ag_ok (show p < 24 by omega), obs, (hM.2 p hp).2.1, if_pos (Int32.le_refl _), List.take_length]
theorem m_unused (hM : RM rules lefts sizes rights G) (hG : okG G) (n : Nat) {N : Nat} (hN : 30 < N) : fX12_unused N rules lefts sizes rights (nI n) = some (oI (freI G n)) := by
  have hl := hG.1
  simp only [fX12_unused, lt_, jn_]
  refine vlp2 (B := bX12_unused_8 N rules lefts sizes rights fun v2 => itr (bX12_unused_86 v2 fun _ => some (-1)) N 0) (fun j v i => i = nI j ∧ j ≤ G.length ∧ v = foldN (stU G) j (1 ||| bitI n)) (fun r => r = some (oI (freI G n))) G.length ?_ ?_ N _ 0 (by omega) ⟨rfl, by omega, rfl⟩
  · rintro j v i hj ⟨rfl, hb, rfl⟩
    left
    refine ⟨foldN (stU G) (j + 1) (1 ||| bitI n), nI (j + 1), ⟨rfl, by omega, rfl⟩, fun rc => ?_⟩
    simp only [bX12_unused_8, lt_, jn_, nI_1, foldN]
    generalize foldN (stU G) j (1 ||| bitI n) = s
    rw [hM.1, if_neg (nI_ge hj (by omega)), ag_ok (show j < 24 by omega), obs, (hM.2 j hj).1, m_unInner hM hG hj _ _ hN]
    show rc ((s ||| bitI (gp G j).1) ||| ntI (gp G j).2) _ = _
    rw [Int32.or_assoc]
    rfl
  · rintro v i ⟨rfl, hb, rfl⟩
    refine ⟨itr (bX12_unused_86 (usedI G n) fun _ => some (-1)) N 0, ?_, fun rc => ?_⟩
    · have hs := srch (B := bX12_unused_86 (usedI G n) (fun _ => some (-1))) 8 N (by omega) (fun k => !tb (usedI G n) k) (fun k => some (nI k)) (some (-1)) ?_ ?_
      · refine Eq.trans hs ?_
        unfold freI
        cases fstI (fun k => !tb (usedI G n) k) 8 <;> rfl
      · intro i hi rc
        simp only [bX12_unused_86, bit01]
        rw [if_neg (nleL 8 8 hi)]
        cases h : tb (usedI G n) i with
        | true => rw [if_neg (by decide), if_neg (by decide)]; simp only [lt_, nI_1]
        | false => rw [if_pos (by rfl), if_pos (by rfl)]
      · intro rc
        simp only [bX12_unused_86]
        rw [if_pos (by decide)]
    · simp only [bX12_unused_8]
      rw [hM.1, if_pos (Int32.le_refl _)]
      rfl
theorem fre_free (hG : okG G) {n k : Nat} (hn : n < 8) (h : freI G n = some k) : k < 8 ∧ k ≠ n ∧ ∀ q ∈ G, q.1 ≠ k ∧ 10 + k ∉ q.2 := by
  unfold freI fstI at h
  have hk : k < 8 := by
    have := List.mem_of_find?_eq_some h
    simpa using this
  have ht : tb (usedI G n) k = false := by
    have := List.find?_some h
    simpa using this
  have up : ∀ j x, sb x (foldN (stU G) j x) := fun j x => fold_up (fun p x => sb_or_l _ _) x j
  have no : ∀ y, sb y (usedI G n) → ¬ sb (bitI k) y := fun y hy hb => by
    have := (sb_bitI_iff (show k < 31 by omega)).mp (sb_trans hb hy)
    rw [ht] at this
    exact absurd this (by decide)
  have nts : ∀ (w : List Nat), 10 + k ∈ w → sb (bitI k) (ntI w) := by
    intro w
    induction w with
    | nil => intro h; exact absurd h (by simp)
    | cons s r ih =>
      intro h
      show sb (bitI k) ((if s < 10 then 0 else bitI (s - 10)) ||| ntI r)
      rcases List.mem_cons.mp h with h | h
      · subst h
        rw [if_neg (by omega), Nat.add_sub_cancel_left]
        exact sb_or_l _ _
      · exact sb_trans (ih h) (sb_or_r _ _)
  refine ⟨hk, fun e => ?_, fun q hq => ?_⟩
  · subst e
    exact no _ (sb_trans (sb_or_r 1 (bitI k)) (up _ _)) (sb_rfl _)
  · obtain ⟨p, hp, e⟩ := List.getElem_of_mem hq
    have eg : gp G p = q := by rw [← e]; simp [gp, List.getD, hp]
    have hst : ∀ j, p < j → sb (bitI (gp G p).1 ||| ntI (gp G p).2) (foldN (stU G) j (1 ||| bitI n)) := by
      intro j
      induction j with
      | zero => intro h; omega
      | succ j ih =>
        intro h
        simp only [foldN]
        by_cases e : p = j
        · subst e; exact sb_or_r _ _
        · exact sb_trans (ih (by omega)) (sb_or_l _ _)
    have hs := hst _ hp
    rw [eg] at hs
    refine ⟨fun e => no _ hs ?_, fun hm => no _ hs (sb_trans (nts _ hm) (sb_or_r _ _))⟩
    rw [e]
    exact sb_or_l _ _
theorem c_prodOf (hc : RC codes count G) (hG : okG G) {n : Nat} (hn : n < 8) {N : Nat} (hN : 30 < N) : fX6_productionsOf N codes count (nI n) = some (nI (pcR (fun p => (gp G p).1 == n) G.length)) := by
  have hl := hG.1
  simp only [fX6_productionsOf, jn_]
  refine vlp2 (B := bX6_productionsOf_4 (nI n) codes count fun v => some v) (fun j v i => i = nI j ∧ j ≤ G.length ∧ v = nI (pcR (fun p => (gp G p).1 == n) j)) (fun r => r = some (nI (pcR (fun p => (gp G p).1 == n) G.length))) G.length ?_ ?_ N 0 0 (by omega) ⟨rfl, by omega, rfl⟩
  · rintro j v i hj ⟨rfl, hb, rfl⟩
    left
    refine ⟨nI (pcR (fun p => (gp G p).1 == n) (j + 1)), nI (j + 1), ⟨rfl, by omega, rfl⟩, fun rc => ?_⟩
    simp only [bX6_productionsOf_4, jn_, lt_, nI_1, pcR]
    rw [hc.1, if_neg (nI_ge hj (by omega)), ag_ok (show j < 24 by omega), hc.2 j hj, obs, c_isOf (okG_gp hG hj) (by omega), obs]
    rcases Bool.eq_false_or_eq_true ((gp G j).1 == n) with h | h
    · simp [h, b01]
    · simp [h, b01]
  · rintro v i ⟨rfl, hb, rfl⟩
    refine ⟨_, rfl, fun rc => ?_⟩
    simp only [bX6_productionsOf_4]
    rw [hc.1, if_pos (Int32.le_refl _)]
theorem c_recOf (hc : RC codes count G) (hG : okG G) {n : Nat} (hn : n < 8) {N : Nat} (hN : 30 < N) : fX6_recursiveOf N codes count (nI n) = some (nI (pcR (fun p => (gp G p).1 == n && recP (gp G p)) G.length)) := by
  have hl := hG.1
  simp only [fX6_recursiveOf, jn_]
  refine vlp2 (B := bX6_recursiveOf_4 (nI n) codes count fun v => some v) (fun j v i => i = nI j ∧ j ≤ G.length ∧ v = nI (pcR (fun p => (gp G p).1 == n && recP (gp G p)) j)) (fun r => r = some (nI (pcR (fun p => (gp G p).1 == n && recP (gp G p)) G.length))) G.length ?_ ?_ N 0 0 (by omega) ⟨rfl, by omega, rfl⟩
  · rintro j v i hj ⟨rfl, hb, rfl⟩
    left
    refine ⟨nI (pcR (fun p => (gp G p).1 == n && recP (gp G p)) (j + 1)), nI (j + 1), ⟨rfl, by omega, rfl⟩, fun rc => ?_⟩
    simp only [bX6_recursiveOf_4, jn_, lt_, nI_1, pcR]
    rw [hc.1, if_neg (nI_ge hj (by omega)), ag_ok (show j < 24 by omega), hc.2 j hj, obs, c_isOf (okG_gp hG hj) (by omega), obs]
    rcases Bool.eq_false_or_eq_true ((gp G j).1 == n) with h | h
    · simp only [h, Bool.true_and]
      rw [if_neg (show ¬ b01 true = 0 by decide), obs, c_isRecursive (okG_gp hG hj), obs]
      rcases Bool.eq_false_or_eq_true (recP (gp G j)) with h2 | h2
      · simp [h2, b01]
      · simp [h2, b01]
    · simp [h, b01]
  · rintro v i ⟨rfl, hb, rfl⟩
    refine ⟨_, rfl, fun rc => ?_⟩
    simp only [bX6_recursiveOf_4]
    rw [hc.1, if_pos (Int32.le_refl _)]
def filP (G : List gP) (n p : Nat) : Bool := (gp G p).1 == n && (!recP (gp G p) && (gp G p).2.length == 5)
theorem c_filled (hc : RC codes count G) (hG : okG G) {n : Nat} (hn : n < 8) {N : Nat} (hN : 30 < N) : fX6_lowestFilledOther N codes count (nI n) = some (oI (fstI (filP G n) G.length)) := by
  have hl := hG.1
  simp only [fX6_lowestFilledOther, jn_]
  have hs := srch (B := bX6_lowestFilledOther_2 (nI n) codes count (fun _ => some (-1))) G.length N (by omega) (filP G n) (fun p => some (nI p)) (some (-1)) ?_ ?_
  · refine Eq.trans hs ?_
    cases fstI (filP G n) G.length <;> rfl
  · intro j hj rc
    have hq := okG_gp hG hj
    have h5 := hq.2.1
    simp only [bX6_lowestFilledOther_2, jn_, lt_, nI_1]
    rw [hc.1, if_neg (nI_ge hj (by omega)), ag_ok (show j < 24 by omega), hc.2 j hj, obs, c_isOf hq (by omega), obs]
    unfold filP
    cases h : (gp G j).1 == n with
    | false => rw [if_pos (by rfl), Bool.false_and, if_neg (by decide)]
    | true =>
      rw [if_neg (by decide), c_isRecursive hq, obs, Bool.true_and]
      cases h2 : recP (gp G j) with
      | true => rw [if_neg (by decide), if_neg (by simp)]
      | false =>
        rw [if_pos (by rfl), c_lengthOf hq, obs]
        by_cases h3 : (gp G j).2.length = 5
        · rw [if_pos (by rw [h3]; rfl), if_pos (by simp [h3])]
        · rw [if_neg (by rw [n5, nI_eq (by omega) (by decide)]; exact h3), if_neg (by simp [h3])]
  · intro rc
    simp only [bX6_lowestFilledOther_2]
    rw [hc.1, if_pos (Int32.le_refl _)]
end UN
