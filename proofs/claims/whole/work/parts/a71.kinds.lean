/-! KINDS of conflicts, and what is told of the i-th conflict, on both sides -/
section KD
variable {codes : Nat → Int32} {count rules : Int32} {lefts sizes rights : Nat → Int32} {G : List gP} {E : Int32} {F W : Nat → Int32}
def knd (G : List gP) (E : Int32) (F : Nat → Int32) (t p q : Nat) : Int32 := ((2 : Int32) - b01 (tb (frst E F (gp G p).2) t)) - b01 (tb (frst E F (gp G q).2) t)
theorem CL_mem {y : Nat × Nat × Nat} (h : y ∈ CL G E F W) : y.1 < 72 ∧ y.2.1 < G.length ∧ y.2.2 < G.length := by
  unfold CL CLf CP CPf PLq at h
  simp only [List.mem_flatMap, List.mem_map, List.mem_filter, List.mem_range'_1] at h
  obtain ⟨c, hc, ⟨p, q⟩, ⟨p', hp', q', hq', e⟩, rfl⟩ := h
  injection e with e1 e2
  subst e1 e2
  refine ⟨?_, ?_, ?_⟩
  · show c < 72
    omega
  · show p' < G.length
    omega
  · show q' < G.length
    split at hq'
    · rw [List.mem_filter, List.mem_range'_1] at hq'
      omega
    · exact absurd hq' (by simp)
theorem c_kindOf (hc : RC codes count G) (hG : okG G) {c p q : Nat} (h72 : c < 72) (hp : p < G.length) (hq : q < G.length) {N : Nat} (hN : 5 < N) : fX8_kindOf N codes count E F (nI (cfI c p q)) = some (knd G E F (c % 9) p q) := by
  have hl := hG.1
  obtain ⟨_, e1, e2, e3⟩ := c_partOf h72 (show p < 24 by omega) (show q < 24 by omega)
  obtain ⟨M, rfl⟩ : ∃ M, N = M + 3 := ⟨N - 3, by omega⟩
  have a2 : (2 : Int32) + 0 = 2 := by decide
  have a3 : (2 : Int32) + 1 = 3 := by decide
  have b0 : ¬ (2 : Int32) ≤ 0 := by decide
  have b1 : ¬ (2 : Int32) ≤ 1 := by decide
  have b2 : (2 : Int32) ≤ 1 + 1 := by decide
  have s1 : (0 : Int32) + 1 = 1 := by decide
  have hcs : ∀ r, r < G.length → ag codes 24 (nI r) = some (nI (enc (gp G r))) := fun r hr => by rw [ag_ok (by omega), hc.2 r hr]
  have hhas : ∀ r, r < G.length → fX6_has count (nI r) = some 1 := fun r hr => by
    rw [hc.1, c_has _ (by omega), inI_nI hr (by omega)]
    rfl
  simp only [fX8_kindOf, e1, obs, jn_]
  rw [itr2_S]
  simp only [bX8_kindOf_11, if_neg b0, a2, e2, obs, hhas p hp, hcs p hp, c_firstFrom0 E F (okG_gp hG hp) hN, c_bit, jn_, lt_, s1]
  rw [if_neg (by decide), itr2_S]
  simp only [bX8_kindOf_11, if_neg b1, a3, e3, obs, hhas q hq, hcs q hq, c_firstFrom0 E F (okG_gp hG hq) hN, c_bit, jn_, lt_]
  rw [if_neg (by decide), itr2_S]
  simp only [bX8_kindOf_11, if_pos b2]
  rfl
theorem m_kindNow (hM : RM rules lefts sizes rights G) (hG : okG G) {t p q : Nat} (hp : p < G.length) (hq : q < G.length) {N : Nat} (hN : 5 < N) : fX12_kindNow N sizes rights E F (nI t) (nI p) (nI q) = some (knd G E F t p q) := by
  simp only [fX12_kindNow, m_firstOf0 hM hG E F hp hN, m_firstOf0 hM hG E F hq hN, obs, bit01]
  rfl
theorem c_isConflict (x : Int32) {n : Nat} (hn : n < 2 ^ 31) : fX11_isConflict (nI n) x = some (b01 (inI x n)) := c_has x hn
end KD
