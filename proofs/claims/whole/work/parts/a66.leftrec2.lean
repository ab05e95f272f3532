/-! LEFT RECURSION: both sides' loops -/
theorem bnI_drop {E : Int32} {w : List Nat} {j : Nat} (h : j < w.length) : bnI E (w.drop j) = (if sy w j < 10 then 0 else bitI (sy w j - 10)) ||| (if nb E (sy w j) = true then bnI E (w.drop (j + 1)) else 0) := by
  rw [drop_cons h]; rfl
theorem c_thatBegin (E : Int32) {q : gP} (hq : okP q) {N : Nat} (hN : 30 < N) : fX7_nonterminalsThatBegin N E (nI (enc q)) = some (bnI E q.2) := by
  have h5 := hq.2.1
  simp only [fX7_nonterminalsThatBegin, jn_]
  refine vlp2 (B := bX7_nonterminalsThatBegin_4 (nI (enc q)) E fun v1 => some v1) (fun j s i => i = nI j ∧ j ≤ q.2.length ∧ s ||| bnI E (q.2.drop j) = bnI E q.2) (fun r => r = some (bnI E q.2)) q.2.length ?_ ?_ N 0 0 (by omega) ⟨rfl, Nat.zero_le _, sb_zero _⟩
  · rintro j s i hj ⟨rfl, _, hs⟩
    have hs18 := okS_lt (okP_sy hq hj)
    rw [bnI_drop hj] at hs
    have hstep : ∀ rc, bX7_nonterminalsThatBegin_4 (nI (enc q)) E (fun v1 => some v1) rc s (nI j) = if nb E (sy q.2 j) = true then rc (s ||| (if sy q.2 j < 10 then 0 else bitI (sy q.2 j - 10))) (nI (j + 1)) else some (s ||| (if sy q.2 j < 10 then 0 else bitI (sy q.2 j - 10))) := by
      intro rc
      simp only [bX7_nonterminalsThatBegin_4, c_lengthOf hq, obs]
      rw [if_neg (nI_ge hj (by omega)), c_symbolOf hq hj]
      simp only [obs, jn_, lt_, nI_1, c_isNullable E hs18]
      by_cases h10 : sy q.2 j < 10
      · rw [if_pos (lt10 h10), if_pos h10, Int32.or_zero]
        cases nb E (sy q.2 j) <;> rfl
      · rw [if_neg (nlt10 h10 hs18), if_neg h10, sub10 h10]
        cases nb E (sy q.2 j) <;> rfl
    cases hb : nb E (sy q.2 j) with
    | true =>
      left
      rw [hb, if_pos rfl, ← Int32.or_assoc] at hs
      exact ⟨_, nI (j + 1), ⟨rfl, by omega, hs⟩, fun rc => by rw [hstep, hb, if_pos rfl]⟩
    | false =>
      right
      rw [hb, if_neg (show ¬ (false = true) by decide), Int32.or_zero] at hs
      exact ⟨_, rfl, fun rc => by rw [hstep, hb, if_neg (by decide), hs]⟩
  · rintro s i ⟨rfl, _, hs⟩
    rw [List.drop_length] at hs
    have hs : s ||| 0 = bnI E q.2 := hs
    rw [Int32.or_zero] at hs
    refine ⟨_, rfl, fun rc => ?_⟩
    simp only [bX7_nonterminalsThatBegin_4, c_lengthOf hq, obs]
    rw [if_pos (Int32.le_refl _), hs]
theorem tb_and_dec : ∀ i, i < 31 → ∀ j, j < 31 → ∀ b : Bool, (tb (if b = true then bitI i else 0) j) = (b && (i == j)) := by decide +kernel
theorem and_bit (x : Int32) {n : Nat} (hn : n < 31) : x &&& bitI n = if tb x n = true then bitI n else 0 := by
  apply Int32.toBitVec_inj.mp
  apply BitVec.eq_of_getLsbD_eq
  intro i hi
  show (x.toBitVec &&& (bitI n).toBitVec).getLsbD i = _
  rw [BitVec.getLsbD_and, lsb_bitI_dec n hn i hi]
  have hx := tb_lsb x n hn
  cases ht : tb x n with
  | true =>
    rw [ht] at hx
    rw [if_pos rfl, lsb_bitI_dec n hn i hi]
    by_cases e : n = i
    · subst e; rw [← hx]; simp
    · simp [e]
  | false =>
    rw [ht] at hx
    rw [if_neg (by decide)]
    by_cases e : n = i
    · subst e; rw [← hx]; simp
    · simp [e]
def stF1 (C : Nat → Int32) (n : Nat) (F : Int32) : Int32 := F ||| (C n &&& bitI n)
theorem tb_F1 (C : Nat → Int32) : ∀ k, k ≤ 8 → ∀ j, j < 31 → tb (foldN (stF1 C) k 0) j = (decide (j < k) && tb (C j) j)
  | 0, _, j, hj => by
    show tb 0 j = _
    rw [tb_0 j hj]; simp
  | k + 1, hk, j, hj => by
    have ih := tb_F1 C k (by omega) j hj
    rw [foldN_S]
    unfold stF1 at ih ⊢
    rw [tb_or _ _ hj, ih, and_bit _ (by omega), tb_and_dec k (by omega) j hj]
    by_cases e : k = j
    · subst e; simp
    · have e2 : decide (j < k + 1) = decide (j < k) := by
        by_cases h : j < k
        · simp [h]; omega
        · simp [h]; omega
      rw [e2]
      have : (k == j) = false := by simp; exact e
      rw [this]; simp
section CLR
variable {codes : Nat → Int32} {count : Int32} {G : List gP}
theorem c_closeBegins (B : Nat → Int32) {N : Nat} (hN : 30 < N) : fX7_closeBegins N B = some (CC B) := by
  simp only [fX7_closeBegins, jn_]
  refine vlp2 (B := bX7_closeBegins_2 N fun v1 => some v1) (fun j i C => i = nI j ∧ j ≤ 8 ∧ C = foldN (fun m => foldN (stC m) 8) j B) (fun r => r = some (CC B)) 8 ?_ ?_ N 0 B (by omega) ⟨rfl, Nat.zero_le _, rfl⟩
  · rintro m i C hm ⟨rfl, _, rfl⟩
    left
    refine ⟨nI (m + 1), foldN (stC m) 8 (foldN (fun m => foldN (stC m) 8) m B), ⟨rfl, by omega, rfl⟩, fun rc => ?_⟩
    generalize foldN (fun m => foldN (stC m) 8) m B = C
    simp only [bX7_closeBegins_2]
    rw [if_neg (nleL 8 8 hm)]
    simp only [jn_]
    refine vlp2 (B := bX7_closeBegins_10 (nI m) fun v6 => lt_ (nI m + 1) fun x7 => rc x7 v6) (fun n i D => i = nI n ∧ n ≤ 8 ∧ D = foldN (stC m) n C) (fun r => r = rc (nI (m + 1)) (foldN (stC m) 8 C)) 8 ?_ ?_ N 0 C (by omega) ⟨rfl, Nat.zero_le _, rfl⟩
    · rintro n i D hn ⟨rfl, _, rfl⟩
      left
      refine ⟨nI (n + 1), stC m n (foldN (stC m) n C), ⟨rfl, by omega, rfl⟩, fun rc => ?_⟩
      generalize foldN (stC m) n C = D
      simp only [bX7_closeBegins_10]
      rw [if_neg (nleL 8 8 hn), ag_ok hn]
      simp only [obs, c_bit, jn_, lt_, nI_1, ag_ok hm, as_ok hn]
      unfold stC
      cases tb (D n) m <;> rfl
    · rintro i D ⟨rfl, _, rfl⟩
      refine ⟨_, rfl, fun rc => ?_⟩
      simp only [bX7_closeBegins_10]
      rw [if_pos (by decide)]
      simp only [lt_, nI_1]
  · rintro i C ⟨rfl, _, rfl⟩
    refine ⟨_, rfl, fun rc => ?_⟩
    simp only [bX7_closeBegins_2]
    rw [if_pos (by decide)]; rfl
theorem c_leftRecursiveOnes (hc : RC codes count G) (hG : okG G) (E : Int32) (b : Nat → Int32) {N : Nat} (hN : 30 < N) : ∃ b', fX7_leftRecursiveOnes N E b codes count = some (foldN (stF1 (CC (B0 G E b))) 8 0, b') := by
  have hl := hG.1
  refine ⟨CC (B0 G E b), ?_⟩
  simp only [fX7_leftRecursiveOnes, jn_]
  have h3 : itr2 (bX7_leftRecursiveOnes_72 (CC (B0 G E b)) fun v4 => some (v4, CC (B0 G E b))) N 0 0 = some (foldN (stF1 (CC (B0 G E b))) 8 0, CC (B0 G E b)) := by
    generalize CC (B0 G E b) = C
    refine vlp2 (B := bX7_leftRecursiveOnes_72 C fun v4 => some (v4, C)) (fun j F i => i = nI j ∧ j ≤ 8 ∧ F = foldN (stF1 C) j 0) (fun r => r = some (foldN (stF1 C) 8 0, C)) 8 ?_ ?_ N 0 0 (by omega) ⟨rfl, Nat.zero_le _, rfl⟩
    · rintro j F i hj ⟨rfl, _, rfl⟩
      left
      refine ⟨stF1 C j (foldN (stF1 C) j 0), nI (j + 1), ⟨rfl, by omega, rfl⟩, fun rc => ?_⟩
      generalize foldN (stF1 C) j 0 = F
      simp only [bX7_leftRecursiveOnes_72]
      rw [if_neg (nleL 8 8 hj), ag_ok hj]
      simp only [obs, lt_, nI_1]
      rfl
    · rintro F i ⟨rfl, _, rfl⟩
      refine ⟨_, rfl, fun rc => ?_⟩
      simp only [bX7_leftRecursiveOnes_72]
      rw [if_pos (by decide)]
  refine vlp2 (B := bX7_leftRecursiveOnes_2 fun v1 => itr2 (bX7_leftRecursiveOnes_23 N E codes count fun v2 => (fX7_closeBegins N v2).bind fun o3 => itr2 (bX7_leftRecursiveOnes_72 o3 fun v4 => some (v4, o3)) N 0 0) N 0 v1) (fun j i B => i = nI j ∧ j ≤ 8 ∧ B = foldN (fun i h => upd h i 0) j b) (fun r => r = some (foldN (stF1 (CC (B0 G E b))) 8 0, CC (B0 G E b))) 8 ?_ ?_ N 0 b (by omega) ⟨rfl, Nat.zero_le _, rfl⟩
  · rintro j i B hj ⟨rfl, _, rfl⟩
    left
    refine ⟨nI (j + 1), upd (foldN (fun i h => upd h i 0) j b) j 0, ⟨rfl, by omega, rfl⟩, fun rc => ?_⟩
    simp only [bX7_leftRecursiveOnes_2]
    rw [if_neg (nleL 8 8 hj), as_ok hj]
    simp only [obs, lt_, nI_1]
  · rintro i B ⟨rfl, _, rfl⟩
    refine ⟨_, rfl, fun rc => ?_⟩
    simp only [bX7_leftRecursiveOnes_2]
    rw [if_pos (by decide)]
    refine vlp2 (B := bX7_leftRecursiveOnes_23 N E codes count fun v2 => (fX7_closeBegins N v2).bind fun o3 => itr2 (bX7_leftRecursiveOnes_72 o3 fun v4 => some (v4, o3)) N 0 0) (fun j i B => i = nI j ∧ j ≤ G.length ∧ B = foldN (stB0 G E) j (foldN (fun i h => upd h i 0) 8 b)) (fun r => r = some (foldN (stF1 (CC (B0 G E b))) 8 0, CC (B0 G E b))) G.length ?_ ?_ N 0 _ (by omega) ⟨rfl, Nat.zero_le _, rfl⟩
    · rintro j i B hj ⟨rfl, _, rfl⟩
      left
      have hq := okG_gp hG hj
      refine ⟨nI (j + 1), stB0 G E j (foldN (stB0 G E) j (foldN (fun i h => upd h i 0) 8 b)), ⟨rfl, by omega, rfl⟩, fun rc => ?_⟩
      generalize foldN (stB0 G E) j (foldN (fun i h => upd h i 0) 8 b) = B
      simp only [bX7_leftRecursiveOnes_23]
      rw [hc.1, if_neg (nI_ge hj (by omega)), ag_ok (show j < 24 by omega)]
      simp only [obs, hc.2 j hj, c_leftOf hq, ag_ok hq.1, c_thatBegin E hq hN, as_ok hq.1, lt_, nI_1]
      rfl
    · rintro i B ⟨rfl, _, rfl⟩
      refine ⟨_, rfl, fun rc => ?_⟩
      simp only [bX7_leftRecursiveOnes_23]
      rw [hc.1, if_pos (Int32.le_refl _), c_closeBegins _ hN]
      simp only [obs]
      exact h3
theorem c_leftRec (hc : RC codes count G) (hG : okG G) (E : Int32) (b : Nat → Int32) {N : Nat} (hN : 30 < N) : ∃ F b', fX7_leftRecursiveOnes N E b codes count = some (F, b') ∧ ∀ n, n < 8 → tb F n = tb (SL G E n) n := by
  obtain ⟨b', e⟩ := c_leftRecursiveOnes hc hG E b hN
  refine ⟨_, b', e, fun n hn => ?_⟩
  rw [tb_F1 _ 8 (Nat.le_refl _) n (by omega), CC_eq hG E b hn]
  simp [hn]
end CLR
section MLR
variable {rules : Int32} {lefts sizes rights : Nat → Int32} {G : List gP}
abbrev w9T : Type := Int32 × Int32 × Int32 × (Nat → Int32) × (Nat → Int32) × (Nat → Int32) × (Nat → Int32) × (Nat → Int32) × Int32
theorem m_lrInner (hM : RM rules lefts sizes rights G) (hG : okG G) (E : Int32) {p : Nat} (hp : p < G.length) (F : Int32) (a : Bool) {N : Nat} (hN : 30 < N) (k25 : Int32 → Option w9T) : itr3 (bX12_leftRecursive_71 sizes rights E (nI p) k25) N F (b01 a) 0 = k25 (if a = true then F ||| bnI E (gp G p).2 else F) := by
  have hq := okG_gp hG hp
  have h5 := hq.2.1
  have hl := hG.1
  have key : ∀ r, (if a = true then F ||| bnI E (gp G p).2 else F) = r → itr3 (bX12_leftRecursive_71 sizes rights E (nI p) k25) N F (b01 a) 0 = k25 r := by
    intro r hr
    refine vlp3 (B := bX12_leftRecursive_71 sizes rights E (nI p) k25) (fun j x f i => i = nI j ∧ j ≤ (gp G p).2.length ∧ ((f = 1 ∧ x ||| bnI E ((gp G p).2.drop j) = r) ∨ (f = 0 ∧ x = r))) (fun z => z = k25 r) (gp G p).2.length ?_ ?_ N F (b01 a) 0 (by omega) ⟨rfl, Nat.zero_le _, ?_⟩
    · rintro j x f i hj ⟨rfl, _, ⟨rfl, hs⟩ | ⟨rfl, rfl⟩⟩
      · left
        have hs18 := okS_lt (okP_sy hq hj)
        rw [bnI_drop hj] at hs
        refine ⟨x ||| (if sy (gp G p).2 j < 10 then 0 else bitI (sy (gp G p).2 j - 10)), b01 (nb E (sy (gp G p).2 j)), nI (j + 1), ⟨rfl, by omega, ?_⟩, fun rc => ?_⟩
        · cases hb : nb E (sy (gp G p).2 j) with
          | true =>
            rw [hb, if_pos rfl, ← Int32.or_assoc] at hs
            exact Or.inl ⟨rfl, hs⟩
          | false =>
            rw [hb, if_neg (show ¬ (false = true) by decide), Int32.or_zero] at hs
            exact Or.inr ⟨rfl, hs⟩
        · simp only [bX12_leftRecursive_71, ag_ok (show p < 24 by omega), obs, (hM.2 p hp).2.1]
          rw [if_neg (nI_ge hj (by omega)), if_neg (by decide), m_symbol hM hG hp hj]
          simp only [obs, jn_, lt_, nI_1, m_isEmpty E hs18]
          by_cases h10 : sy (gp G p).2 j < 10
          · rw [if_pos (lt10 h10), if_pos h10]
          · rw [if_neg (nlt10 h10 hs18), if_neg h10, sub10 h10]
            rfl
      · right
        refine ⟨_, rfl, fun rc => ?_⟩
        simp only [bX12_leftRecursive_71, ag_ok (show p < 24 by omega), obs, (hM.2 p hp).2.1]
        rw [if_neg (nI_ge hj (by omega)), if_pos trivial]
    · rintro x f i ⟨rfl, _, h⟩
      have hx : x = r := by
        rcases h with ⟨_, hs⟩ | ⟨_, hs⟩
        · rw [List.drop_length] at hs
          have hs : x ||| 0 = r := hs
          rw [Int32.or_zero] at hs
          exact hs
        · exact hs
      refine ⟨_, rfl, fun rc => ?_⟩
      simp only [bX12_leftRecursive_71, ag_ok (show p < 24 by omega), obs, (hM.2 p hp).2.1]
      rw [if_pos (Int32.le_refl _), hx]
    · cases a with
      | true => rw [if_pos rfl] at hr; exact Or.inl ⟨rfl, hr⟩
      | false => rw [if_neg (by decide)] at hr; exact Or.inr ⟨rfl, hr⟩
  exact key _ rfl
theorem m_lrLoops (hM : RM rules lefts sizes rights G) (hG : okG G) (E : Int32) {n : Nat} (hn : n < 8) {N : Nat} (hN : 30 < N) (k11 : Int32 → Option w9T) : itr2 (bX12_leftRecursive_17 N (nI n) rules lefts sizes rights E k11) N 0 0 = k11 (SL G E n) := by
  have hl := hG.1
  refine vlp2 (B := bX12_leftRecursive_17 N (nI n) rules lefts sizes rights E k11) (fun j F k => k = nI j ∧ j ≤ 9 ∧ F = foldN (fun _ => fL G E n) j 0) (fun r => r = k11 (SL G E n)) 9 ?_ ?_ N 0 0 (by omega) ⟨rfl, Nat.zero_le _, rfl⟩
  · rintro j F k hj ⟨rfl, _, rfl⟩
    left
    refine ⟨fL G E n (foldN (fun _ => fL G E n) j 0), nI (j + 1), ⟨rfl, by omega, rfl⟩, fun rc => ?_⟩
    generalize foldN (fun _ => fL G E n) j 0 = F
    have hnl : ¬ (8 : Int32) < nI j := by show ¬ nI 8 < nI j; exact nI_nlt (by omega) (by decide)
    simp only [bX12_leftRecursive_17]
    rw [if_neg hnl]
    simp only [jn_]
    refine vlp2 (B := bX12_leftRecursive_26 N (nI n) rules lefts sizes rights E fun v15 => lt_ (nI j + 1) fun x16 => rc v15 x16) (fun p x i => i = nI p ∧ p ≤ G.length ∧ x = foldN (stL G E n) p F) (fun r => r = rc (fL G E n F) (nI (j + 1))) G.length ?_ ?_ N F 0 (by omega) ⟨rfl, Nat.zero_le _, rfl⟩
    · rintro p x i hp ⟨rfl, _, rfl⟩
      left
      refine ⟨stL G E n p (foldN (stL G E n) p F), nI (p + 1), ⟨rfl, by omega, rfl⟩, fun rc => ?_⟩
      generalize foldN (stL G E n) p F = x
      have h8 := (okG_gp hG hp).1
      have i1 := m_lrInner hM hG E hp x true hN (fun v23 => lt_ (nI p + 1) fun x24 => rc v23 x24)
      have i0 := m_lrInner hM hG E hp x false hN (fun v23 => lt_ (nI p + 1) fun x24 => rc v23 x24)
      have z1 : b01 true = 1 := rfl
      have z0 : b01 false = 0 := rfl
      rw [z1, if_pos rfl] at i1
      rw [z0, if_neg (by decide)] at i0
      simp only [bX12_leftRecursive_26]
      rw [hM.1, if_neg (nI_ge hp (by omega)), ag_ok (show p < 24 by omega)]
      simp only [obs, (hM.2 p hp).1, jn_, bit01]
      rw [i1, i0]
      simp only [lt_, nI_1]
      unfold stL
      by_cases e : (gp G p).1 = n
      · rw [if_pos (by rw [e]), if_pos (Or.inl e)]
      · rw [if_neg (by rw [nI_eq (by omega) (by omega)]; exact e)]
        cases ht : tb x (gp G p).1 with
        | true => rw [if_pos (by rfl), if_pos (Or.inr rfl)]
        | false => rw [if_neg (by decide), if_neg (by rintro (q | q); exact e q; exact absurd q (by decide))]
    · rintro x i ⟨rfl, _, rfl⟩
      refine ⟨_, rfl, fun rc => ?_⟩
      simp only [bX12_leftRecursive_26]
      rw [hM.1, if_pos (Int32.le_refl _)]
      simp only [lt_, nI_1]
      rfl
  · rintro F k ⟨rfl, _, rfl⟩
    refine ⟨_, rfl, fun rc => ?_⟩
    simp only [bX12_leftRecursive_17]
    rw [if_pos (by decide)]
    rfl
end MLR
