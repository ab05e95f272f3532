/-! THE CLASS'S ring of ten saved grammars -/
def HC (hs : List (List gP)) (sc : Nat → Nat → Int32) (sn : Nat → Int32) (newest size : Int32) : Prop := hs.length ≤ 10 ∧ size = nI hs.length ∧ ∃ nw, nw < 10 ∧ newest = nI nw ∧ ∀ i, i < hs.length → RC (sc ((nw + 10 - i) % 10)) (sn ((nw + 10 - i) % 10)) (hs.getD i []) ∧ okG (hs.getD i [])
theorem c_save {hs : List (List gP)} {sc : Nat → Nat → Int32} {sn : Nat → Int32} {newest size : Int32} (h : HC hs sc sn newest size) {codes : Nat → Int32} {count : Int32} {G : List gP} (hc : RC codes count G) (hG : okG G) : ∃ j sc' sn' nw' sz', fX2_save sc sn newest size codes count = some (j, sc', sn', nw', sz') ∧ HC ((G :: hs).take 10) sc' sn' nw' sz' := by
  obtain ⟨h10, rfl, nw, hnw, rfl, hr⟩ := h
  have e1 : nI (nw + 1) - nI (nw + 1) / (10 : Int32) * (10 : Int32) = nI ((nw + 1) % 10) := pk_rem (d := 10) (by omega) (by decide) (by decide)
  have e2 : (if (10 : Int32) < nI (hs.length + 1) then (10 : Int32) else nI (hs.length + 1)) = nI ((G :: hs).take 10).length := by
    rw [List.length_take, List.length_cons]
    by_cases hh : 10 < hs.length + 1
    · rw [if_pos (show (10 : Int32) < nI (hs.length + 1) from nI_lt (a := 10) hh (by omega))]
      have : min 10 (hs.length + 1) = 10 := by omega
      rw [this]; rfl
    · rw [if_neg (show ¬ (10 : Int32) < nI (hs.length + 1) from nI_nlt (show hs.length + 1 ≤ 10 by omega) (by decide))]
      have : min 10 (hs.length + 1) = hs.length + 1 := by omega
      rw [this]
  have hj : (nw + 1) % 10 < 10 := Nat.mod_lt _ (by decide)
  obtain ⟨f1, b1, b2⟩ := c_become (codes' := sc ((nw + 1) % 10)) (count' := sn ((nw + 1) % 10)) hc hG
  refine ⟨(nw + 1) % 10, va_up sc ((nw + 1) % 10) f1, va_up sn ((nw + 1) % 10) count, nI ((nw + 1) % 10), nI ((G :: hs).take 10).length, ?_, ?_⟩
  · simp only [fX2_save, nI_1, lt_, e1, e2, agR_ok hj, obs, b1, bd2]
  · refine ⟨by rw [List.length_take]; omega, rfl, (nw + 1) % 10, hj, rfl, fun i hi => ?_⟩
    rw [List.length_take, List.length_cons] at hi
    have eg : ((G :: hs).take 10).getD i [] = if i = 0 then G else hs.getD (i - 1) [] := by
      rw [List.getD_eq_getElem?_getD, List.getElem?_take, if_pos (by omega)]
      cases i with
      | zero => rfl
      | succ k => simp [List.getD_eq_getElem?_getD]
    rw [eg]
    by_cases hi0 : i = 0
    · subst hi0
      rw [if_pos rfl]
      have e3 : ((nw + 1) % 10 + 10 - 0) % 10 = (nw + 1) % 10 := by omega
      rw [e3]
      refine ⟨?_, hG⟩
      have u1 : va_up sc ((nw + 1) % 10) f1 ((nw + 1) % 10) = f1 := by simp [va_up]
      have u2 : va_up sn ((nw + 1) % 10) count ((nw + 1) % 10) = count := by simp [va_up]
      rw [u1, u2]
      exact b2
    · rw [if_neg hi0]
      have e4 : ((nw + 1) % 10 + 10 - i) % 10 = (nw + 10 - (i - 1)) % 10 := by omega
      have e5 : (nw + 10 - (i - 1)) % 10 ≠ (nw + 1) % 10 := by omega
      rw [e4]
      have u1 : va_up sc ((nw + 1) % 10) f1 ((nw + 10 - (i - 1)) % 10) = sc ((nw + 10 - (i - 1)) % 10) := by simp [va_up, e5]
      have u2 : va_up sn ((nw + 1) % 10) count ((nw + 10 - (i - 1)) % 10) = sn ((nw + 10 - (i - 1)) % 10) := by simp [va_up, e5]
      rw [u1, u2]
      exact hr (i - 1) (by omega)
theorem c_restore {G : List gP} {hs : List (List gP)} {sc : Nat → Nat → Int32} {sn : Nat → Int32} {newest size : Int32} (h : HC (G :: hs) sc sn newest size) (codes : Nat → Int32) (count : Int32) : ∃ nw' sz' codes' count', fX2_restore sc sn newest size codes count = some (nw', sz', codes', count') ∧ HC hs sc sn nw' sz' ∧ RC codes' count' G ∧ okG G := by
  obtain ⟨h10, rfl, nw, hnw, rfl, hr⟩ := h
  rw [List.length_cons] at h10 hr
  obtain ⟨r0, g0⟩ := hr 0 (by omega)
  have e0 : (nw + 10 - 0) % 10 = nw := by omega
  rw [e0] at r0
  obtain ⟨f1, b1, b2⟩ := c_become (codes' := codes) (count' := count) r0 g0
  have e1 : nI (nw + 10 - 1) - nI (nw + 10 - 1) / (10 : Int32) * (10 : Int32) = nI ((nw + 10 - 1) % 10) := pk_rem (d := 10) (by omega) (by decide) (by decide)
  refine ⟨nI ((nw + 10 - 1) % 10), nI hs.length, f1, sn nw, ?_, ⟨by omega, rfl, (nw + 10 - 1) % 10, Nat.mod_lt _ (by decide), rfl, fun i hi => ?_⟩, b2, g0⟩
  · have e2 : nI nw + (10 : Int32) - 1 = nI (nw + 10 - 1) := by
      rw [n10, nI_add, nI_sub1 (by omega)]
    simp only [fX2_restore, agR_ok hnw, obs, b1, bd2, e2, lt_, e1]
    rw [List.length_cons, nI_sub1 (by omega)]
    rfl
  · obtain ⟨r1, g1⟩ := hr (i + 1) (by omega)
    have e3 : ((nw + 10 - 1) % 10 + 10 - i) % 10 = (nw + 10 - (i + 1)) % 10 := by omega
    rw [e3]
    exact ⟨r1, g1⟩
