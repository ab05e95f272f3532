/-! COMMON PREFIXES on both sides -/
def cmn : List Nat → List Nat → Nat
  | a :: r, b :: t => if a = b then cmn r t + 1 else 0
  | _, _ => 0
theorem cmn_char : ∀ (a b : List Nat) (m : Nat), m ≤ a.length → m ≤ b.length → (∀ k, k < m → sy a k = sy b k) → (m < a.length → m < b.length → sy a m ≠ sy b m) → cmn a b = m
  | [], b, m, h1, _, _, _ => by
    simp only [List.length_nil, Nat.le_zero] at h1
    subst h1
    rfl
  | a :: r, [], m, _, h2, _, _ => by
    simp only [List.length_nil, Nat.le_zero] at h2
    subst h2
    rfl
  | a :: r, b :: t, 0, _, _, _, h4 => by
    have := h4 (Nat.succ_pos _) (Nat.succ_pos _)
    simp only [cmn]
    rw [if_neg (fun e => this (show a = b from e))]
  | a :: r, b :: t, m + 1, h1, h2, h3, h4 => by
    have e : a = b := h3 0 (Nat.succ_pos _)
    simp only [List.length_cons] at h1 h2
    simp only [cmn]
    rw [if_pos e, cmn_char r t m (by omega) (by omega) (fun k hk => h3 (k + 1) (by omega)) (fun q1 q2 => h4 (by simp only [List.length_cons]; omega) (by simp only [List.length_cons]; omega))]
theorem cmn_le : ∀ a b : List Nat, cmn a b ≤ a.length ∧ cmn a b ≤ b.length
  | [], b => ⟨Nat.zero_le _, by simp [cmn]⟩
  | a :: r, [] => ⟨by simp [cmn], by simp [cmn]⟩
  | a :: r, b :: t => by
    have := cmn_le r t
    simp only [cmn, List.length_cons]
    split <;> omega
theorem cmn_comm : ∀ a b : List Nat, cmn a b = cmn b a
  | [], [] => rfl
  | [], _ :: _ => rfl
  | _ :: _, [] => rfl
  | a :: r, b :: t => by
    simp only [cmn]
    rw [cmn_comm r t]
    by_cases e : a = b
    · rw [if_pos e, if_pos e.symm]
    · rw [if_neg e, if_neg (fun h => e h.symm)]
theorem cmn_take : ∀ (a b : List Nat) (m : Nat), m ≤ cmn a b → a.take m = b.take m
  | [], b, m, h => by
    have : m = 0 := by simpa [cmn] using h
    subst this; rfl
  | a :: r, [], m, h => by
    have : m = 0 := by simpa [cmn] using h
    subst this; rfl
  | a :: r, b :: t, 0, _ => rfl
  | a :: r, b :: t, m + 1, h => by
    simp only [cmn] at h
    by_cases e : a = b
    · rw [if_pos e] at h
      rw [List.take_succ_cons, List.take_succ_cons, e, cmn_take r t m (by omega)]
    · rw [if_neg e] at h; omega
theorem cmn_self : ∀ a : List Nat, cmn a a = a.length
  | [] => rfl
  | a :: r => by simp only [cmn, if_true, List.length_cons, cmn_self r]
theorem mn_nI {a b : Nat} (ha : a < 2 ^ 31) (hb : b < 2 ^ 31) : (if nI b < nI a then nI b else nI a) = nI (min a b) := by
  by_cases h : b < a
  · rw [if_pos (nI_lt h ha), Nat.min_eq_right (by omega)]
  · rw [if_neg (nI_nlt (by omega) hb), Nat.min_eq_left (by omega)]
theorem mx_nI {a b : Nat} (ha : a < 2 ^ 31) (hb : b < 2 ^ 31) : (if nI a < nI b then nI b else nI a) = nI (max a b) := by
  by_cases h : a < b
  · rw [if_pos (nI_lt h hb), Nat.max_eq_right (by omega)]
  · rw [if_neg (nI_nlt (by omega) ha), Nat.max_eq_left (by omega)]
theorem c_common {q r : gP} (hq : okP q) (hr : okP r) {N : Nat} (hN : 30 < N) : fX6_commonPrefix N (nI (enc q)) (nI (enc r)) = some (nI (cmn q.2 r.2)) := by
  have h5 := hq.2.1
  have h5' := hr.2.1
  simp only [fX6_commonPrefix, c_lengthOf hq, c_lengthOf hr, obs, lt_, jn_, mn_nI (show q.2.length < 2 ^ 31 by omega) (show r.2.length < 2 ^ 31 by omega)]
  refine vlp1 (B := bX6_commonPrefix_14 (nI (enc q)) (nI (enc r)) (nI (min q.2.length r.2.length)) fun _ => some (nI (min q.2.length r.2.length))) (fun j v => v = nI j ∧ j ≤ min q.2.length r.2.length ∧ ∀ k, k < j → sy q.2 k = sy r.2 k) (fun x => x = some (nI (cmn q.2 r.2))) (min q.2.length r.2.length) ?_ ?_ N 0 (by omega) ⟨rfl, Nat.zero_le _, fun k hk => absurd hk (Nat.not_lt_zero _)⟩
  · rintro j v hj ⟨rfl, hb, h1⟩
    by_cases e : sy q.2 j = sy r.2 j
    · left
      refine ⟨nI (j + 1), ⟨rfl, by omega, fun k hk => ?_⟩, fun rc => ?_⟩
      · by_cases ek : k = j
        · rw [ek]; exact e
        · exact h1 k (by omega)
      · simp only [bX6_commonPrefix_14]
        rw [if_neg (nI_ge hj (by omega)), c_symbolOf hq (by omega), obs, c_symbolOf hr (by omega), obs, if_pos (by rw [e])]
        simp only [lt_, nI_1]
    · right
      refine ⟨some (nI j), by rw [cmn_char q.2 r.2 j (by omega) (by omega) h1 (fun _ _ => e)], fun rc => ?_⟩
      simp only [bX6_commonPrefix_14]
      have h18 := okS_lt (okP_sy hq (show j < q.2.length by omega))
      have h18' := okS_lt (okP_sy hr (show j < r.2.length by omega))
      rw [if_neg (nI_ge hj (by omega)), c_symbolOf hq (by omega), obs, c_symbolOf hr (by omega), obs, if_neg (by rw [nI_eq (by omega) (by omega)]; exact e)]
  · rintro v ⟨rfl, hb, h1⟩
    refine ⟨some (nI (min q.2.length r.2.length)), by rw [cmn_char q.2 r.2 (min q.2.length r.2.length) (by omega) (by omega) h1 (fun _ _ => by omega)], fun rc => ?_⟩
    simp only [bX6_commonPrefix_14]
    rw [if_pos (Int32.le_refl _)]
theorem m_common {rules : Int32} {lefts sizes rights : Nat → Int32} {G : List gP} (hM : RM rules lefts sizes rights G) (hG : okG G) {p q : Nat} (hp : p < G.length) (hq : q < G.length) {N : Nat} (hN : 30 < N) : fX12_common N sizes rights (nI p) (nI q) = some (nI (cmn (gp G p).2 (gp G q).2)) := by
  have hl := hG.1
  have op := okG_gp hG hp
  have oq := okG_gp hG hq
  have h5 := op.2.1
  have h5' := oq.2.1
  simp only [fX12_common, jn_]
  refine vlp1 (B := bX12_common_2 (nI p) (nI q) sizes rights fun v => some v) (fun j v => v = nI j ∧ j ≤ min (gp G p).2.length (gp G q).2.length ∧ ∀ k, k < j → sy (gp G p).2 k = sy (gp G q).2 k) (fun x => x = some (nI (cmn (gp G p).2 (gp G q).2))) (min (gp G p).2.length (gp G q).2.length) ?_ ?_ N 0 (by omega) ⟨rfl, Nat.zero_le _, fun k hk => absurd hk (Nat.not_lt_zero _)⟩
  · rintro j v hj ⟨rfl, hb, h1⟩
    have h18 := okS_lt (okP_sy op (show j < (gp G p).2.length by omega))
    have h18' := okS_lt (okP_sy oq (show j < (gp G q).2.length by omega))
    by_cases e : sy (gp G p).2 j = sy (gp G q).2 j
    · left
      refine ⟨nI (j + 1), ⟨rfl, by omega, fun k hk => ?_⟩, fun rc => ?_⟩
      · by_cases ek : k = j
        · rw [ek]; exact e
        · exact h1 k (by omega)
      · simp only [bX12_common_2, ag_ok (show p < 24 by omega), ag_ok (show q < 24 by omega), obs, (hM.2 p hp).2.1, (hM.2 q hq).2.1]
        rw [if_neg (nI_ge (by omega) (by omega)), if_neg (nI_ge (by omega) (by omega)), m_symbol hM hG hp (by omega), obs, m_symbol hM hG hq (by omega), obs, if_pos (by rw [e])]
        simp only [lt_, nI_1]
    · right
      refine ⟨some (nI j), by rw [cmn_char _ _ j (by omega) (by omega) h1 (fun _ _ => e)], fun rc => ?_⟩
      simp only [bX12_common_2, ag_ok (show p < 24 by omega), ag_ok (show q < 24 by omega), obs, (hM.2 p hp).2.1, (hM.2 q hq).2.1]
      rw [if_neg (nI_ge (by omega) (by omega)), if_neg (nI_ge (by omega) (by omega)), m_symbol hM hG hp (by omega), obs, m_symbol hM hG hq (by omega), obs, if_neg (by rw [nI_eq (by omega) (by omega)]; exact e)]
  · rintro v ⟨rfl, hb, h1⟩
    refine ⟨some (nI (min (gp G p).2.length (gp G q).2.length)), by rw [cmn_char _ _ (min (gp G p).2.length (gp G q).2.length) (by omega) (by omega) h1 (fun _ _ => by omega)], fun rc => ?_⟩
    simp only [bX12_common_2, ag_ok (show p < 24 by omega), ag_ok (show q < 24 by omega), obs, (hM.2 p hp).2.1, (hM.2 q hq).2.1]
    by_cases hc : (gp G p).2.length ≤ min (gp G p).2.length (gp G q).2.length
    · rw [if_pos (nI_le hc (by omega))]
    · rw [if_neg (nI_ge (by omega) (by omega)), if_pos (nI_le (by omega) (by omega))]
/-- the greatest of f 0 .. f (k-1) -/
def mxN (f : Nat → Nat) : Nat → Nat
  | 0 => 0
  | k + 1 => max (mxN f k) (f k)
theorem le_mxN (f : Nat → Nat) : ∀ k i, i < k → f i ≤ mxN f k
  | k + 1, i, h => by
    simp only [mxN]
    by_cases e : i = k
    · subst e; omega
    · have := le_mxN f k i (by omega); omega
theorem mxN_le {f : Nat → Nat} {b : Nat} : ∀ k, (∀ i, i < k → f i ≤ b) → mxN f k ≤ b
  | 0, _ => Nat.zero_le _
  | k + 1, h => by
    have h1 := mxN_le k (fun i hi => h i (by omega))
    have h2 := h k (by omega)
    simp only [mxN]; omega
theorem mxN_ex {f : Nat → Nat} : ∀ k, 0 < mxN f k → ∃ i, i < k ∧ f i = mxN f k
  | 0, h => absurd h (Nat.lt_irrefl _)
  | k + 1, h => by
    simp only [mxN] at h ⊢
    by_cases e : mxN f k < f k
    · exact ⟨k, by omega, by omega⟩
    · obtain ⟨i, h1, h2⟩ := mxN_ex (f := f) k (by omega)
      exact ⟨i, by omega, by omega⟩
theorem mxN_zero {f : Nat → Nat} {k : Nat} (h : ∀ i, i < k → f i = 0) : mxN f k = 0 := Nat.le_zero.mp (mxN_le k fun i hi => Nat.le_of_eq (h i hi))
def gC (G : List gP) (n p q : Nat) : Nat := if p ≠ q ∧ (gp G p).1 = n ∧ (gp G q).1 = n then cmn (gp G p).2 (gp G q).2 else 0
def gA (G : List gP) (n p q : Nat) : Nat := if p < q then gC G n p q else 0
def shA (G : List gP) (n p : Nat) : Nat := mxN (gA G n p) G.length
def hA (G : List gP) (n p : Nat) : Nat := mxN (gC G n p) G.length
theorem gC_comm (G : List gP) (n p q : Nat) : gC G n p q = gC G n q p := by
  unfold gC
  by_cases h : p ≠ q ∧ (gp G p).1 = n ∧ (gp G q).1 = n
  · rw [if_pos h, if_pos ⟨h.1.symm, h.2.2, h.2.1⟩, cmn_comm]
  · rw [if_neg h, if_neg (fun k => h ⟨k.1.symm, k.2.2, k.2.1⟩)]
theorem gC_le {G : List gP} (hG : okG G) (n : Nat) {p q : Nat} (hp : p < G.length) (hq : q < G.length) : gC G n p q ≤ 4 := by
  unfold gC
  split
  · rename_i h
    obtain ⟨h1, h2, h3⟩ := h
    have c := cmn_le (gp G p).2 (gp G q).2
    have l1 := (okG_gp hG hp).2.1
    have l2 := (okG_gp hG hq).2.1
    by_cases e : cmn (gp G p).2 (gp G q).2 = 5
    · exfalso
      have t := cmn_take (gp G p).2 (gp G q).2 5 (by omega)
      rw [List.take_of_length_le l1, List.take_of_length_le l2] at t
      have eq : gp G p = gp G q := Prod.ext (by rw [h2, h3]) t
      have hn := hG.2.2
      have e1 : gp G p = G[p] := by simp [gp, List.getD, hp]
      have e2 : gp G q = G[q] := by simp [gp, List.getD, hq]
      rw [e1, e2] at eq
      have hw := List.pairwise_iff_getElem.mp hn
      rcases Nat.lt_trichotomy p q with h | h | h
      · exact hw p q hp hq h eq
      · exact h1 h
      · exact hw q p hq hp h eq.symm
    · omega
  · omega
theorem mx_same {G : List gP} (n : Nat) : mxN (hA G n) G.length = mxN (shA G n) G.length := by
  refine Nat.le_antisymm (mxN_le _ fun p hp => mxN_le _ fun q hq => ?_) (mxN_le _ fun p hp => Nat.le_trans (mxN_le _ fun q hq => ?_) (le_mxN (hA G n) _ p hp))
  · rcases Nat.lt_trichotomy p q with h | h | h
    · refine Nat.le_trans ?_ (le_mxN (shA G n) _ p hp)
      refine Nat.le_trans ?_ (le_mxN (gA G n p) _ q hq)
      unfold gA; rw [if_pos h]; exact Nat.le_refl _
    · subst h
      unfold gC
      rw [if_neg (fun h => h.1 rfl)]; exact Nat.zero_le _
    · refine Nat.le_trans ?_ (le_mxN (shA G n) _ q hq)
      refine Nat.le_trans ?_ (le_mxN (gA G n q) _ p hp)
      unfold gA; rw [if_pos h, gC_comm]; exact Nat.le_refl _
  · refine Nat.le_trans ?_ (le_mxN (gC G n p) _ q hq)
    unfold gA; split
    · exact Nat.le_refl _
    · exact Nat.zero_le _
theorem lead_same {G : List gP} {n lw : Nat} (hlw : lw < G.length) (h0 : 0 < mxN (shA G n) G.length) (h1 : hA G n lw = mxN (shA G n) G.length) (h2 : ∀ p, p < lw → hA G n p ≠ mxN (shA G n) G.length) : shA G n lw = mxN (shA G n) G.length ∧ ∀ p, p < lw → shA G n p ≠ mxN (shA G n) G.length := by
  have hle : ∀ p, p < G.length → hA G n p ≤ mxN (shA G n) G.length := fun p hp => by rw [← mx_same]; exact le_mxN (hA G n) _ p hp
  have hsl : ∀ p, shA G n p ≤ hA G n p := fun p => mxN_le _ fun q hq => by
    refine Nat.le_trans ?_ (le_mxN (gC G n p) _ q hq)
    unfold gA; split
    · exact Nat.le_refl _
    · exact Nat.zero_le _
  refine ⟨?_, fun p hp e => h2 p hp ?_⟩
  · obtain ⟨q, hq, e⟩ := mxN_ex G.length (show 0 < mxN (gC G n lw) G.length by show 0 < hA G n lw; rw [h1]; exact h0)
    have e' : gC G n lw q = mxN (shA G n) G.length := by rw [← h1]; exact e
    rcases Nat.lt_trichotomy lw q with h | h | h
    · refine Nat.le_antisymm (by rw [← h1]; exact hsl lw) ?_
      rw [← e']
      refine Nat.le_trans ?_ (le_mxN (gA G n lw) _ q hq)
      unfold gA; rw [if_pos h]; exact Nat.le_refl _
    · subst h
      unfold gC at e'
      rw [if_neg (fun h => h.1 rfl)] at e'
      omega
    · exfalso
      refine h2 q h (Nat.le_antisymm (hle q hq) ?_)
      rw [← e', gC_comm]
      exact le_mxN (gC G n q) _ lw hlw
  · have a := hsl p
    have b := hle p (by omega)
    omega
