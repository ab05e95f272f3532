/-! THE ARGUMENTS of an added production, the class's way -/
def symI (x : Int32) : Option Nat := if inI x 8 = true then some x.toInt.toNat else if inI x 18 = true ∧ inI x 10 = false then some x.toInt.toNat else none
theorem symI_nI {s : Nat} (h : okS s) : symI (nI s) = some s := by
  have hs := okS_lt h
  have e : (nI s).toInt.toNat = s := by rw [nI_toInt (by omega)]; rfl
  have hi : ∀ n, n < 2 ^ 31 → (inI (nI s) n = true ↔ s < n) := fun n hn => by
    unfold inI; rw [nI_toInt (by omega)]; simp
  unfold symI
  by_cases h8 : s < 8
  · rw [if_pos ((hi 8 (by decide)).mpr h8), e]
  · have h10 : 10 ≤ s ∧ s < 18 := by rcases h with h | h <;> omega
    rw [if_neg (fun h => h8 ((hi 8 (by decide)).mp h)), if_pos ⟨(hi 18 (by decide)).mpr h10.2, by
      cases hb : inI (nI s) 10 with
      | false => rfl
      | true => have := (hi 10 (by decide)).mp hb; omega⟩, e]
theorem symI_cases (x : Int32) : (∃ s, okS s ∧ x = nI s ∧ symI x = some s) ∨ ((x < 0 ∨ nI 8 ≤ x) ∧ (x < nI 10 ∨ nI 18 ≤ x) ∧ symI x = none) := by
  by_cases h8 : inI x 8 = true
  · obtain ⟨s, hs, rfl⟩ := inI_of (by decide) h8
    exact Or.inl ⟨s, Or.inl hs, rfl, symI_nI (Or.inl hs)⟩
  · by_cases h18 : inI x 18 = true ∧ inI x 10 = false
    · obtain ⟨s, hs, rfl⟩ := inI_of (by decide) h18.1
      have h10 : 10 ≤ s := by
        by_cases h : s < 10
        · have := inI_nI h (by decide)
          rw [h18.2] at this
          exact absurd this (by decide)
        · omega
      exact Or.inl ⟨s, Or.inr ⟨h10, hs⟩, rfl, symI_nI (Or.inr ⟨h10, hs⟩)⟩
    · right
      refine ⟨inI_not (by decide) h8, ?_, ?_⟩
      · by_cases ha : inI x 18 = true
        · have hb : inI x 10 = true := by
            cases hb : inI x 10 with
            | true => rfl
            | false => exact absurd ⟨ha, hb⟩ h18
          obtain ⟨s, hs, rfl⟩ := inI_of (by decide) hb
          exact Or.inl (nI_lt hs (by decide))
        · rcases inI_not (by decide) ha with h | h
          · left
            refine Int32.lt_trans h (by decide)
          · exact Or.inr h
      · unfold symI
        rw [if_neg h8, if_neg h18]
def encO (o : Option gP) : Int32 := match o with
  | some q => nI (enc q)
  | none => -1
def extO (o : Option gP) (i : Nat) (x : Int32) : Option gP := match o with
  | none => none
  | some q => if x = -1 then some q else match symI x with
    | none => none
    | some s => if q.2.length = i then some (q.1, q.2 ++ [s]) else none
def okO (o : Option gP) : Prop := ∀ q, o = some q → okP q
theorem okO_ext {o : Option gP} (h : okO o) {i : Nat} (hi : i < 5) (x : Int32) : okO (extO o i x) := by
  intro q hq
  cases o with
  | none => exact absurd hq (by simp [extO])
  | some r =>
    have hr := h r rfl
    unfold extO at hq
    simp only at hq
    split at hq
    · injection hq with hq; subst hq; exact hr
    · rcases symI_cases x with ⟨s, hs, _, e⟩ | ⟨_, _, e⟩
      · rw [e] at hq
        simp only at hq
        split at hq
        · injection hq with hq
          subst hq
          refine ⟨hr.1, ?_, fun a ha => ?_⟩
          · show (r.2 ++ [s]).length ≤ 5
            rw [List.length_append, List.length_singleton]; omega
          · rcases List.mem_append.mp ha with ha | ha
            · exact hr.2.2 a ha
            · rw [List.mem_singleton.mp ha]; exact hs
        · exact absurd hq (by simp)
      · rw [e] at hq
        exact absurd hq (by simp)
theorem c_byArg {o : Option gP} (h : okO o) {i : Nat} (hi : i < 5) (x : Int32) : fX6_extendedByArgument (encO o) (nI i) x = some (encO (extO o i x)) := by
  simp only [fX6_extendedByArgument, jn_]
  cases o with
  | none =>
    rw [if_pos (show encO none < 0 by decide)]
    rfl
  | some q =>
    have hq := h q rfl
    have hl5 := hq.2.1
    have e0 : encO (some q) = nI (enc q) := rfl
    rw [e0, if_neg (nI_pos (enc_lt hq))]
    unfold extO
    simp only
    by_cases hx : x = -1
    · rw [if_pos hx, if_pos hx, e0]
    · rw [if_neg hx, if_neg hx]
      rcases symI_cases x with ⟨s, hs, rfl, e⟩ | ⟨h8, h18, e⟩
      · have hl := okS_lt hs
        rw [e]
        simp only [c_lengthOf hq, obs]
        have fin : ∀ v3 v4 : Int32, (v3 = 1 ∨ v4 = 1) → (if nI q.2.length = nI i then if v3 = 0 then if v4 = 0 then some (-1) else (fX6_extended (nI (enc q)) (nI s)).bind fun x9 => some x9 else (fX6_extended (nI (enc q)) (nI s)).bind fun x9 => some x9 else some (-1)) = some (encO (if q.2.length = i then some (q.1, q.2 ++ [s]) else none)) := by
          intro v3 v4 hv
          by_cases hli : q.2.length = i
          · rw [if_pos (by rw [hli]), if_pos hli, c_extended (l := q.1) (w := q.2) hq (by omega) hs]
            simp only [obs]
            rcases hv with rfl | rfl
            · rw [if_neg (by decide)]; rfl
            · by_cases h3 : v3 = 0
              · rw [if_pos h3, if_neg (by decide)]; rfl
              · rw [if_neg h3]; rfl
          · rw [if_neg (by rw [nI_eq (by omega) (by omega)]; exact hli), if_neg hli]; rfl
        rw [if_neg (nI_pos (by omega))]
        by_cases h8 : s < 8
        · rw [if_neg (nleL 8 8 h8), if_pos (ltL 10 10 (by omega))]
          exact fin 1 0 (Or.inl rfl)
        · have h10 : 10 ≤ s ∧ s < 18 := by rcases hs with h | h <;> omega
          rw [if_pos (leL 8 8 (by omega) (by omega)), if_neg (nltL 10 10 h10.1 (by omega)), if_neg (nleL 18 18 h10.2)]
          exact fin 0 1 (Or.inr rfl)
      · rw [e]
        simp only [c_lengthOf hq, obs]
        have fin : (if nI q.2.length = nI i then if (0 : Int32) = 0 then if (0 : Int32) = 0 then some (-1) else (fX6_extended (nI (enc q)) x).bind fun x9 => some x9 else (fX6_extended (nI (enc q)) x).bind fun x9 => some x9 else some (-1)) = some (encO none) := by
          rw [if_pos rfl, if_pos rfl]
          split <;> rfl
        have f2 : (if x < 10 then (if nI q.2.length = nI i then if (0 : Int32) = 0 then if (0 : Int32) = 0 then some (-1) else (fX6_extended (nI (enc q)) x).bind fun x9 => some x9 else (fX6_extended (nI (enc q)) x).bind fun x9 => some x9 else some (-1)) else if 18 ≤ x then (if nI q.2.length = nI i then if (0 : Int32) = 0 then if (0 : Int32) = 0 then some (-1) else (fX6_extended (nI (enc q)) x).bind fun x9 => some x9 else (fX6_extended (nI (enc q)) x).bind fun x9 => some x9 else some (-1)) else (if nI q.2.length = nI i then if (0 : Int32) = 0 then if (1 : Int32) = 0 then some (-1) else (fX6_extended (nI (enc q)) x).bind fun x9 => some x9 else (fX6_extended (nI (enc q)) x).bind fun x9 => some x9 else some (-1))) = some (encO none) := by
          rcases h18 with h | h
          · rw [if_pos (show x < 10 from h)]; exact fin
          · by_cases hh : x < 10
            · rw [if_pos hh]; exact fin
            · rw [if_neg hh, if_pos (show 18 ≤ x from h)]; exact fin
        rcases h8 with h | h
        · rw [if_pos h]; exact f2
        · by_cases h0 : x < 0
          · rw [if_pos h0]; exact f2
          · rw [if_neg h0, if_pos (show 8 ≤ x from h)]; exact f2
