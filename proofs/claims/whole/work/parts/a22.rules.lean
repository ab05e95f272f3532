/-! THE CLASS'S Rules: what its methods answer, over a grammar G -/
def b01 (b : Bool) : Int32 := if b = true then 1 else 0
theorem b01_01 (b : Bool) : b01 b = 0 ∨ b01 b = 1 := by cases b <;> simp [b01]
def inI (x : Int32) (n : Nat) : Bool := decide (0 ≤ x.toInt ∧ x.toInt < (n : Int))
theorem inI_nI {j n : Nat} (h : j < n) (hn : n < 2 ^ 31) : inI (nI j) n = true := by
  unfold inI; rw [nI_toInt (by omega)]; simp; omega
theorem inI_of {x : Int32} {n : Nat} (hn : n < 2 ^ 31) (h : inI x n = true) : ∃ j, j < n ∧ x = nI j := by
  have h1 := of_decide_eq_true h
  rcases pk_ix x hn with h2 | h2 | h2
  · have := Int32.lt_iff_toInt_lt.mp h2
    simp at this; omega
  · have := Int32.le_iff_toInt_le.mp h2
    rw [nI_toInt hn] at this; omega
  · exact h2
theorem inI_not {x : Int32} {n : Nat} (hn : n < 2 ^ 31) (h : ¬ inI x n = true) : x < 0 ∨ nI n ≤ x := by
  rcases pk_ix x hn with h2 | h2 | ⟨j, h2, rfl⟩
  · exact Or.inl h2
  · exact Or.inr h2
  · exact absurd (inI_nI h2 hn) h
theorem c_has (x : Int32) {n : Nat} (hn : n < 2 ^ 31) : fX6_has (nI n) x = some (b01 (inI x n)) := by
  simp only [fX6_has, jn_, gz]
  by_cases h : inI x n = true
  · obtain ⟨j, hj, rfl⟩ := inI_of hn h
    rw [h, if_neg (nI_pos (by omega)), if_neg (nI_ge hj hn)]
    simp [b01]
  · have h' : inI x n = false := by simpa using h
    rw [h']
    rcases inI_not hn h with h1 | h1
    · rw [if_pos h1]; simp [b01]
    · by_cases h0 : x < 0
      · rw [if_pos h0]; simp [b01]
      · rw [if_neg h0, if_pos h1]; simp [b01]
theorem c_isOf {q : gP} (h : okP q) {n : Nat} (hn : n < 2 ^ 31) : fX6_isOf (nI (enc q)) (nI n) = some (b01 (q.1 == n)) := by
  simp only [fX6_isOf, c_leftOf h, obs, jn_, gz]
  have := h.1
  by_cases e : q.1 = n
  · rw [if_pos (by rw [e])]; simp [b01, e]
  · rw [if_neg (by rw [nI_eq (by omega) hn]; exact e)]
    simp [b01, e]
def recP (q : gP) : Bool := decide (0 < q.2.length) && (sy q.2 0 == 10 + q.1)
theorem c_isRecursive {q : gP} (h : okP q) : fX6_isRecursive (nI (enc q)) = some (b01 (recP q)) := by
  have h1 := h.1
  have h2 := h.2.1
  simp only [fX6_isRecursive, c_lengthOf h, obs, jn_, gz]
  by_cases hz : q.2.length = 0
  · rw [hz, if_pos (by decide)]
    simp [b01, recP, hz]
  · have hs0 : fX6_symbolOf (nI (enc q)) 0 = some (nI (sy q.2 0)) := c_symbolOf (i := 0) h (by omega)
    rw [if_neg (nI_nle (by omega) (by omega)), hs0, c_leftOf h]
    simp only [obs]
    have hs := okS_lt (okP_sy h (show 0 < q.2.length by omega))
    rw [n10, nI_add]
    by_cases e : sy q.2 0 = 10 + q.1
    · rw [if_pos (by rw [e])]
      have : recP q = true := by simp [recP, e]; omega
      rw [this]; rfl
    · rw [if_neg (by rw [nI_eq (by omega) (by omega)]; exact e)]
      have : recP q = false := by simp [recP, e]
      rw [this]; rfl
def oI (o : Option Nat) : Int32 := match o with
  | some j => nI j
  | none => -1
theorem RC_len {codes : Nat → Int32} {count : Int32} {G : List gP} (h : RC codes count G) (hG : okG G) : G.length < 2 ^ 31 := by have := hG.1; omega
theorem c_find {codes : Nat → Int32} {count : Int32} {G : List gP} (h : RC codes count G) (hG : okG G) {r : gP} (hr : okP r) {N : Nat} (hN : 24 < N) : fX6_find N codes count (nI (enc r)) = some (oI (fstI (fun p => gp G p == r) G.length)) := by
  have hl := hG.1
  simp only [fX6_find, jn_]
  rw [h.1]
  have hs := srch (B := bX6_find_2 (nI (enc r)) codes (nI G.length) (fun _ => some (-1))) G.length N (by omega) (fun p => gp G p == r) (fun p => some (nI p)) (some (-1)) ?_ ?_
  · refine Eq.trans hs ?_
    cases fstI (fun p => gp G p == r) G.length <;> rfl
  · intro i hi rc
    unfold bX6_find_2
    rw [if_neg (nI_ge hi (by omega)), ag_ok (by omega)]
    simp only [obs, lt_]
    rw [h.2 i hi]
    by_cases e : gp G i = r
    · rw [if_pos (by rw [e]), if_pos (by simp [e])]
    · rw [if_neg (by rw [enc_eq_iff (okG_gp hG hi) hr]; exact e), if_neg (by simpa using e), nI_1]
  · intro rc
    unfold bX6_find_2
    rw [if_pos (Int32.le_refl _)]
