/-! WORDS: the class's operations -/
theorem jn_lo {A B s : Nat} (hs : s ≤ 60) (hB : B < 2 ^ s) : (A * 2 ^ s + B) / 2 ^ 60 = A / 2 ^ 60 * 2 ^ s + (A % 2 ^ 60) / 2 ^ (60 - s) ∧ (A * 2 ^ s + B) % 2 ^ 60 = ((A % 2 ^ 60) * 2 ^ s) % 2 ^ 60 + B := by
  have e60 : (2 : Nat) ^ 60 = 2 ^ s * 2 ^ (60 - s) := by rw [← Nat.pow_add]; congr 1; omega
  have hP : 0 < 2 ^ s := Nat.two_pow_pos s
  have hQ : 0 < 2 ^ (60 - s) := Nat.two_pow_pos _
  rw [e60]
  generalize 2 ^ s = p at *
  generalize 2 ^ (60 - s) = q at *
  have d1 : (A * p + B) / p = A := by
    rw [Nat.add_comm, Nat.add_mul_div_right _ _ hP, Nat.div_eq_of_lt hB, Nat.zero_add]
  have m1 : (A * p + B) % p = B := by
    rw [Nat.add_comm, Nat.add_mul_mod_self_right, Nat.mod_eq_of_lt hB]
  have h1 : (A * p + B) / (p * q) = A / q := by rw [← Nat.div_div_eq_div_mul, d1]
  have h2 : (A * p + B) % (p * q) = B + p * (A % q) := by rw [Nat.mod_mul, m1, d1]
  have h3 : A / (p * q) * p + A % (p * q) / q = A / q := by
    have e : A % (p * q) = A % (q * p) := by rw [Nat.mul_comm]
    rw [e, Nat.mod_mul, Nat.mul_comm p q, ← Nat.div_div_eq_div_mul]
    have e2 : (A % q + q * (A / q % p)) / q = A / q % p := by
      rw [Nat.add_comm, Nat.mul_comm q, Nat.mul_comm, Nat.mul_add_div hQ, Nat.div_eq_of_lt (Nat.mod_lt _ hQ), Nat.add_zero]
    rw [e2, Nat.mul_comm]
    exact Nat.div_add_mod (A / q) p
  have h4 : (A % (p * q) * p) % (p * q) = p * (A % q) := by
    rw [Nat.mul_comm (A % (p * q)) p, Nat.mul_mod_mul_left, Nat.mod_mul_left_mod]
  exact ⟨by rw [h1, h3], by rw [h2, h4]; omega⟩
theorem jn_hi {A B s : Nat} (hs : 60 ≤ s) : (A * 2 ^ s + B) / 2 ^ 60 = A * 2 ^ (s - 60) + B / 2 ^ 60 ∧ (A * 2 ^ s + B) % 2 ^ 60 = B % 2 ^ 60 := by
  have e : A * 2 ^ s = A * 2 ^ (s - 60) * 2 ^ 60 := by rw [Nat.mul_assoc, ← Nat.pow_add]; congr 2; omega
  rw [e]
  exact ⟨by rw [Nat.add_comm, Nat.add_mul_div_right _ _ (Nat.two_pow_pos 60)]; omega, by rw [Nat.add_comm, Nat.add_mul_mod_self_right]⟩
def WR (wt : Nat → Nat) (n : Nat) (c : Nat → Int32) (h l : Nat → Int64) (ω : Nat → wO) : Prop := ∀ w, w < n → c w = nI (cN wt (ω w)) ∧ h w = hI (ω w) ∧ l w = lI (ω w) ∧ okW (ω w)
theorem p8 (k : Nat) : (8 : Nat) ^ k = 2 ^ (3 * k) := by rw [Nat.pow_mul]
section WOP
variable {wt : Nat → Nat} {n : Nat} {c : Nat → Int32} {h l : Nat → Int64} {ω : Nat → wO}
theorem shr10 {x : Nat} (hx : x < 2 ^ 31) : nI x >>> ((10 : Int32) &&& (31 : Int32)) = nI (x / 1024) := shr_nI (j := 10) hx (by decide)
theorem c_joinedHigh (hw : ∀ t, t < 8 → wt t ≤ 9) (R : WR wt n c h l ω) (hn : Nat.ble n 100000 = true) {i j : Nat} (hi : i < n) (hj : j < n) {u v : List Nat} (eu : ω i = some u) (ev : ω j = some v) (hlen : (u ++ v).length ≤ 40) : fX10_joinedHigh n c h l (nI i) (nI j) = some (hI (some (u ++ v))) := by
  obtain ⟨a1, a2, a3, a4⟩ := R i hi
  obtain ⟨b1, b2, b3, b4⟩ := R j hj
  rw [eu] at a1 a2 a3 a4
  rw [ev] at b1 b2 b3 b4
  have hcl := cN_le hw b4
  have hA := valN_lt u a4.1
  have hB := valN_lt v b4.1
  rw [p8] at hA hB
  simp only [List.length_append] at hlen
  simp only [fX10_joinedHigh, ag_ok hj hn, obs, b1, lt_]
  rw [shr10 (by omega), cN_len hw b4]
  have e3 : (3 : Int32) * nI v.length = nI (3 * v.length) := pk_mul 3 v.length
  rw [e3]
  have hv : hI (some (u ++ v)) = lN ((valN u * 2 ^ (3 * v.length) + valN v) / 2 ^ 60) := by
    simp only [hI, vN, valN_app, p8]
  rw [hv]
  by_cases h20 : v.length < 20
  · have hlt : nI (3 * v.length) < 60 := nI_lt (b := 60) (by omega) (by decide)
    rw [if_pos hlt]
    simp only [agL_ok hi hn, agL_ok hj hn, obs, a2, a3, b2, hI, lI, vN]
    have e60 : (60 : Int32) - nI (3 * v.length) = nI (60 - 3 * v.length) := pk_sub (a := 60) (by omega)
    rw [e60, lshl_N _ (by omega), lshr_N (Nat.lt_of_lt_of_le (Nat.mod_lt _ (Nat.two_pow_pos 60)) (by decide)) (by omega)]
    have hz : valN v / 2 ^ 60 = 0 := Nat.div_eq_of_lt (Nat.lt_of_lt_of_le hB (Nat.pow_le_pow_right (by decide) (by omega)))
    have hq : valN u % 2 ^ 60 / 2 ^ (60 - 3 * v.length) < 2 ^ (3 * v.length) := by
      rw [Nat.div_lt_iff_lt_mul (Nat.two_pow_pos _), ← Nat.pow_add]
      have : 3 * v.length + (60 - 3 * v.length) = 60 := by omega
      rw [this]
      exact Nat.mod_lt _ (Nat.two_pow_pos 60)
    rw [lor_add hq, hz, (jn_lo (A := valN u) (B := valN v) (s := 3 * v.length) (by omega) hB).1, lor_N, Nat.or_zero]
  · have hnlt : ¬ nI (3 * v.length) < 60 := nI_nlt (b := 60) (by omega) (by omega)
    rw [if_neg hnlt]
    simp only [agL_ok hi hn, agL_ok hj hn, obs, a3, b2, hI, lI, vN]
    have e60 : nI (3 * v.length) - 60 = nI (3 * v.length - 60) := pk_sub (b := 60) (by omega)
    have hu : valN u % 2 ^ 60 = valN u := Nat.mod_eq_of_lt (Nat.lt_of_lt_of_le hA (Nat.pow_le_pow_right (by decide) (by omega)))
    have hq : valN v / 2 ^ 60 < 2 ^ (3 * v.length - 60) := by
      rw [Nat.div_lt_iff_lt_mul (Nat.two_pow_pos _), ← Nat.pow_add]
      have : 3 * v.length - 60 + 60 = 3 * v.length := by omega
      rw [this]
      exact hB
    rw [e60, lshl_N _ (by omega), hu, lor_add hq, (jn_hi (A := valN u) (B := valN v) (s := 3 * v.length) (by omega)).1]
theorem c_joinedLow (hw : ∀ t, t < 8 → wt t ≤ 9) (R : WR wt n c h l ω) (hn : Nat.ble n 100000 = true) {i j : Nat} (hi : i < n) (hj : j < n) {u v : List Nat} (eu : ω i = some u) (ev : ω j = some v) (hlen : (u ++ v).length ≤ 40) : fX10_joinedLow n c l (nI i) (nI j) = some (lI (some (u ++ v))) := by
  obtain ⟨a1, a2, a3, a4⟩ := R i hi
  obtain ⟨b1, b2, b3, b4⟩ := R j hj
  rw [eu] at a1 a2 a3 a4
  rw [ev] at b1 b2 b3 b4
  have hcl := cN_le hw b4
  have hA := valN_lt u a4.1
  have hB := valN_lt v b4.1
  rw [p8] at hA hB
  simp only [List.length_append] at hlen
  simp only [fX10_joinedLow, ag_ok hj hn, obs, b1, lt_]
  rw [shr10 (by omega), cN_len hw b4]
  have e3 : (3 : Int32) * nI v.length = nI (3 * v.length) := pk_mul 3 v.length
  rw [e3]
  have hv : lI (some (u ++ v)) = lN ((valN u * 2 ^ (3 * v.length) + valN v) % 2 ^ 60) := by
    simp only [lI, vN, valN_app, p8]
  rw [hv]
  by_cases h20 : v.length < 20
  · have hlt : nI (3 * v.length) < 60 := nI_lt (b := 60) (by omega) (by decide)
    rw [if_pos hlt]
    simp only [agL_ok hi hn, agL_ok hj hn, obs, a3, b3, lI, vN]
    have hz : valN v % 2 ^ 60 = valN v := Nat.mod_eq_of_lt (Nat.lt_of_lt_of_le hB (Nat.pow_le_pow_right (by decide) (by omega)))
    rw [lshl_N _ (by omega), land_N, hz, (jn_lo (A := valN u) (B := valN v) (s := 3 * v.length) (by omega) hB).2]
    have e60 : (2 : Nat) ^ 60 = 2 ^ (3 * v.length) * 2 ^ (60 - 3 * v.length) := by rw [← Nat.pow_add]; congr 1; omega
    have hd : (valN u % 2 ^ 60 * 2 ^ (3 * v.length)) % 2 ^ 60 = (valN u % 2 ^ 60 % 2 ^ (60 - 3 * v.length)) * 2 ^ (3 * v.length) := by
      generalize valN u % 2 ^ 60 = z
      rw [e60, Nat.mul_comm z, Nat.mul_mod_mul_left, Nat.mul_comm]
    rw [hd, lor_add hB]
  · have hnlt : ¬ nI (3 * v.length) < 60 := nI_nlt (b := 60) (by omega) (by omega)
    rw [if_neg hnlt]
    simp only [agL_ok hj hn, obs, b3, lI, vN]
    rw [(jn_hi (A := valN u) (B := valN v) (s := 3 * v.length) (by omega)).2]
end WOP
