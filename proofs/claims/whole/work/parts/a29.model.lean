/-! THE REFERENCE'S grammar and sets -/
def RM (rules : Int32) (lefts sizes rights : Nat → Int32) (G : List gP) : Prop := rules = nI G.length ∧ ∀ p, p < G.length → lefts p = nI (gp G p).1 ∧ sizes p = nI (gp G p).2.length ∧ ∀ i, i < (gp G p).2.length → rights (5 * p + i) = nI (sy (gp G p).2 i)
section MR
variable {rules : Int32} {lefts sizes rights : Nat → Int32} {G : List gP}
theorem m_symbol (h : RM rules lefts sizes rights G) (hG : okG G) {p i : Nat} (hp : p < G.length) (hi : i < (gp G p).2.length) : fX12_symbol rights (nI p) (nI i) = some (nI (sy (gp G p).2 i)) := by
  have hl := hG.1
  have h5 := (okG_gp hG hp).2.1
  simp only [fX12_symbol]
  rw [n5, pk_mul, nI_add, ag_ok (by omega)]
  simp only [obs, (h.2 p hp).2.2 i hi]
theorem m_areEmpty (h : RM rules lefts sizes rights G) (hG : okG G) (E : Int32) {p : Nat} (hp : p < G.length) {N : Nat} (hN : 5 < N) : ∀ i, i ≤ (gp G p).2.length → fX12_areEmpty N sizes rights E (nI p) (nI i) = some (b01 (van E ((gp G p).2.drop i))) := by
  intro i hi
  have hq := okG_gp hG hp
  have hl := hq.2.1
  have hG24 := hG.1
  simp only [fX12_areEmpty, jn_]
  have stop : ∀ rc, bX12_areEmpty_2 (nI p) sizes rights E (fun _ => some 1) rc (nI (gp G p).2.length) = some 1 := by
    intro rc
    simp only [bX12_areEmpty_2, ag_ok (show p < 24 by omega), obs, (h.2 p hp).2.1]
    rw [if_pos (Int32.le_refl _)]
  have step : ∀ j, j < (gp G p).2.length → ∀ rc, bX12_areEmpty_2 (nI p) sizes rights E (fun _ => some 1) rc (nI j) = if nb E (sy (gp G p).2 j) = true then rc (nI (j + 1)) else some 0 := by
    intro j hj rc
    simp only [bX12_areEmpty_2, ag_ok (show p < 24 by omega), obs, (h.2 p hp).2.1]
    rw [if_neg (nI_ge hj (by omega)), m_symbol h hG hp hj]
    simp only [obs, m_isEmpty E (okS_lt (okP_sy hq hj)), lt_, nI_1]
    cases nb E (sy (gp G p).2 j) <;> rfl
  have key : ∀ (k j N : Nat), j + k = (gp G p).2.length → k < N → itr (bX12_areEmpty_2 (nI p) sizes rights E fun _ => some 1) N (nI j) = some (b01 (van E ((gp G p).2.drop j))) := by
    intro k
    induction k with
    | zero =>
      intro j N hj hN
      obtain ⟨M, rfl⟩ : ∃ M, N = M + 1 := ⟨N - 1, by omega⟩
      have : j = (gp G p).2.length := by omega
      subst this
      refine (stop _).trans ?_
      rw [List.drop_length]; rfl
    | succ k ih =>
      intro j N hj hN
      obtain ⟨M, rfl⟩ : ∃ M, N = M + 1 := ⟨N - 1, by omega⟩
      have hjl : j < (gp G p).2.length := by omega
      refine (step j hjl _).trans ?_
      rw [drop_cons hjl]
      cases hb : nb E (sy (gp G p).2 j) with
      | false => simp [van, hb, b01]
      | true =>
        rw [if_pos rfl, ih (j + 1) M (by omega) (by omega)]
        simp [van, hb]
  exact key ((gp G p).2.length - i) i N (by omega) (by omega)
theorem m_firstOf (h : RM rules lefts sizes rights G) (hG : okG G) (E : Int32) (F : Nat → Int32) {p : Nat} (hp : p < G.length) {N : Nat} (hN : 5 < N) : ∀ i, i ≤ (gp G p).2.length → fX12_firstOf N sizes rights E F (nI p) (nI i) = some (frst E F ((gp G p).2.drop i)) := by
  intro i hi
  have hq := okG_gp hG hp
  have hl := hq.2.1
  have hG24 := hG.1
  simp only [fX12_firstOf, jn_]
  have stop : ∀ rc a, bX12_firstOf_5 (nI p) sizes rights E F (fun v => some v) rc a (nI (gp G p).2.length) = some a := by
    intro rc a
    simp only [bX12_firstOf_5, ag_ok (show p < 24 by omega), obs, (h.2 p hp).2.1]
    rw [if_pos (Int32.le_refl _)]
  have step : ∀ j, j < (gp G p).2.length → ∀ rc a, bX12_firstOf_5 (nI p) sizes rights E F (fun v => some v) rc a (nI j) = if nb E (sy (gp G p).2 j) = true then rc (a ||| fo F (sy (gp G p).2 j)) (nI (j + 1)) else some (a ||| fo F (sy (gp G p).2 j)) := by
    intro j hj rc a
    have hok := okP_sy hq hj
    have h18 := okS_lt hok
    simp only [bX12_firstOf_5, ag_ok (show p < 24 by omega), obs, (h.2 p hp).2.1]
    rw [if_neg (nI_ge hj (by omega)), m_symbol h hG hp hj]
    simp only [obs, m_isEmpty E h18, lt_, nI_1, jn_]
    generalize sy (gp G p).2 j = s at *
    by_cases h10 : s < 10
    · rw [if_neg (nle10 h10)]
      simp only [fo, h10, if_true]
      cases nb E s <;> rfl
    · rw [if_pos (le10 h10 h18), sub10 h10, ag_ok (show s - 10 < 8 by omega)]
      simp only [obs, fo, h10, if_false]
      cases nb E s <;> rfl
  have key : ∀ (k j N : Nat) (a : Int32), j + k = (gp G p).2.length → k < N → itr2 (bX12_firstOf_5 (nI p) sizes rights E F fun v => some v) N a (nI j) = some (a ||| frst E F ((gp G p).2.drop j)) := by
    intro k
    induction k with
    | zero =>
      intro j N a hj hN
      obtain ⟨M, rfl⟩ : ∃ M, N = M + 1 := ⟨N - 1, by omega⟩
      have : j = (gp G p).2.length := by omega
      subst this
      refine (stop _ _).trans ?_
      rw [List.drop_length]
      simp [frst]
    | succ k ih =>
      intro j N a hj hN
      obtain ⟨M, rfl⟩ : ∃ M, N = M + 1 := ⟨N - 1, by omega⟩
      have hjl : j < (gp G p).2.length := by omega
      refine (step j hjl _ _).trans ?_
      rw [drop_cons hjl]
      simp only [frst]
      cases hb : nb E (sy (gp G p).2 j) with
      | false => simp
      | true =>
        rw [if_pos rfl, if_pos rfl]
        refine (ih (j + 1) M _ (by omega) (by omega)).trans ?_
        rw [Int32.or_assoc]
  have := key ((gp G p).2.length - i) i N 0 (by omega) (by omega)
  rw [this]
  have e : 0 ||| frst E F ((gp G p).2.drop i) = frst E F ((gp G p).2.drop i) := sb_zero _
  rw [e]
theorem m_areEmpty0 (h : RM rules lefts sizes rights G) (hG : okG G) (E : Int32) {p : Nat} (hp : p < G.length) {N : Nat} (hN : 5 < N) : fX12_areEmpty N sizes rights E (nI p) 0 = some (b01 (van E (gp G p).2)) := by
  have := m_areEmpty h hG E hp hN 0 (Nat.zero_le _)
  rw [List.drop_zero] at this
  exact this
theorem m_firstOf0 (h : RM rules lefts sizes rights G) (hG : okG G) (E : Int32) (F : Nat → Int32) {p : Nat} (hp : p < G.length) {N : Nat} (hN : 5 < N) : fX12_firstOf N sizes rights E F (nI p) 0 = some (frst E F (gp G p).2) := by
  have := m_firstOf h hG E F hp hN 0 (Nat.zero_le _)
  rw [List.drop_zero] at this
  exact this
end MR
/-- the follow sets of one production, the reference's way: from the first symbol on -/
def mI (E : Int32) (F : Nat → Int32) (q : gP) (i : Nat) (W : Nat → Int32) : Nat → Int32 := if sy q.2 i < 10 then W else upd W (sy q.2 i - 10) (W (sy q.2 i - 10) ||| bh E F (W q.1) (q.2.drop (i + 1)))
def mD (E : Int32) (F : Nat → Int32) (q : gP) (i : Nat) (W : Nat → Int32) : Bool := !(decide (sy q.2 i < 10)) && !(decide (W (sy q.2 i - 10) ||| bh E F (W q.1) (q.2.drop (i + 1)) = W (sy q.2 i - 10)))
theorem mI_up (E : Int32) (F : Nat → Int32) (q : gP) (i : Nat) (W : Nat → Int32) : sb8 W (mI E F q i W) := by
  unfold mI
  split
  · exact sb8_rfl _
  · exact sb8_upd _ _ _
theorem mI_same {E : Int32} {F : Nat → Int32} {q : gP} {i : Nat} {W : Nat → Int32} (h : mD E F q i W = false) : mI E F q i W = W := by
  unfold mI
  split
  · rfl
  · rename_i h10
    simp [mD, h10] at h
    rw [h]; exact upd_same _ _
theorem mI_lt {E : Int32} {F : Nat → Int32} {q : gP} {i : Nat} {W : Nat → Int32} (hs : sy q.2 i < 18) (h : mD E F q i W = true) : pc8 W 8 < pc8 (mI E F q i W) 8 := by
  have h10 : ¬ sy q.2 i < 10 := by intro e; simp [mD, e] at h
  have hne : ¬ W (sy q.2 i - 10) ||| bh E F (W q.1) (q.2.drop (i + 1)) = W (sy q.2 i - 10) := by simp [mD, h10] at h; exact h
  refine pc8_lt 8 (sy q.2 i - 10) (mI_up E F q i W) (by omega) ?_
  unfold mI
  rw [if_neg h10, pk_us]
  exact fun e => hne e.symm
abbrev m3 : Type := Int32 × (Nat → Int32) × (Nat → Int32)
def mE (G : List gP) (p : Nat) (v : m3) : Int32 := stE G p v.1
def mF (G : List gP) (p : Nat) (v : m3) : Nat → Int32 := stF G (mE G p v) p v.2.1
def stM (G : List gP) (p : Nat) (v : m3) : m3 := (mE G p v, mF G p v, foldN (mI (mE G p v) (mF G p v) (gp G p)) (gp G p).2.length v.2.2)
def dM (G : List gP) (p : Nat) (v : m3) : Bool := (!(tb v.1 (gp G p).1) && van v.1 (gp G p).2) || (dF G (mE G p v) p v.2.1 || chN (mD (mE G p v) (mF G p v) (gp G p)) (mI (mE G p v) (mF G p v) (gp G p)) (gp G p).2.length v.2.2)
