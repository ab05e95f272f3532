/-! THE CALLS conflict AND conflictKind: one answer on both sides -/
section KD2
variable {codes : Nat → Int32} {count rules : Int32} {lefts sizes rights : Nat → Int32} {G : List gP} {E : Int32} {F W : Nat → Int32}
def cfP (y : Nat × Nat × Nat) (x : Int32) : Int32 := if x = 0 then nI (y.1 / 9) else if x = 1 then nI (y.1 % 9) else if x = 2 then nI y.2.1 else if x = 3 then nI y.2.2 else -1
/-- the i-th, if there is one -/
def atI {α : Type} (L : List α) (x : Int32) : Option α := if inI x L.length = true then L[x.toInt.toNat]? else none
theorem atI_nI {α : Type} {L : List α} {i : Nat} (hi : i < L.length) (hL : L.length < 2 ^ 31) : atI L (nI i) = L[i]? := by
  unfold atI
  rw [if_pos (inI_nI hi hL), nI_toInt (by omega)]
  rfl
theorem atI_not {α : Type} {L : List α} {x : Int32} (h : inI x L.length = false) : atI L x = none := by
  unfold atI
  rw [h]
  rfl
def aCf (L : List (Nat × Nat × Nat)) (x part : Int32) : Int32 := match atI L x with
  | some y => cfP y part
  | none => -1
def aKd (G : List gP) (E : Int32) (F W : Nat → Int32) (x : Int32) : Int32 := match atI (CL G E F W) x with
  | some y => knd G E F (y.1 % 9) y.2.1 y.2.2
  | none => -1
theorem in03 (x : Int32) : (x < 0 ∨ (3 : Int32) < x ∨ x = 0 ∨ x = 1 ∨ x = 2 ∨ x = 3) := by
  by_cases h0 : x < 0
  · exact Or.inl h0
  · obtain ⟨i, hi, rfl⟩ := nI_of h0
    by_cases h : 3 < i
    · right; left
      exact nI_lt (a := 3) h hi
    · right; right
      have : i = 0 ∨ i = 1 ∨ i = 2 ∨ i = 3 := by omega
      rcases this with rfl | rfl | rfl | rfl
      · exact Or.inl rfl
      · exact Or.inr (Or.inl rfl)
      · exact Or.inr (Or.inr (Or.inl rfl))
      · exact Or.inr (Or.inr (Or.inr rfl))
theorem cfP_lo (y : Nat × Nat × Nat) {x : Int32} (h : x < 0) : cfP y x = -1 := by
  unfold cfP
  rw [if_neg (by rintro rfl; exact absurd h (by decide)), if_neg (by rintro rfl; exact absurd h (by decide)), if_neg (by rintro rfl; exact absurd h (by decide)), if_neg (by rintro rfl; exact absurd h (by decide))]
theorem cfP_hi (y : Nat × Nat × Nat) {x : Int32} (h : (3 : Int32) < x) : cfP y x = -1 := by
  unfold cfP
  rw [if_neg (by rintro rfl; exact absurd h (by decide)), if_neg (by rintro rfl; exact absurd h (by decide)), if_neg (by rintro rfl; exact absurd h (by decide)), if_neg (by rintro rfl; exact absurd h (by decide))]
theorem c_conflict (hc : RC codes count G) (hG : okG G) {se ps lo : Nat → Int32} (hT : TBx G E F W 0 se ps lo) (x part : Int32) {N : Nat} (hN : 100 < N) : fX11_conflict N codes count se ps (nI (CL G E F W).length) x part = some (aCf (CL G E F W) x part) := by
  have hle := CL_le (E := E) (F := F) (W := W) hG
  have hl := hG.1
  unfold aCf
  simp only [fX11_conflict, c_isConflict x (show (CL G E F W).length < 2 ^ 31 by omega), obs, jn_]
  by_cases h : inI x (CL G E F W).length = true
  · obtain ⟨i, hi, rfl⟩ := inI_of (by omega) h
    have e1 : (CL G E F W)[i]? = some (CL G E F W)[i] := List.getElem?_eq_getElem hi
    obtain ⟨m1, m2, m3⟩ := CL_mem (List.getElem_mem hi)
    rw [atI_nI hi (by omega), e1, h, if_neg (by decide), c_conflictAt hc hG hT (by omega) hN, fnd_some e1]
    obtain ⟨p0, p1, p2, p3⟩ := c_partOf m1 (show (CL G E F W)[i].2.1 < 24 by omega) (show (CL G E F W)[i].2.2 < 24 by omega)
    show _ = some (cfP (CL G E F W)[i] part)
    rcases in03 part with h0 | h3 | rfl | rfl | rfl | rfl
    · rw [if_pos h0, cfP_lo _ h0]
    · rw [cfP_hi _ h3, if_neg (by
        intro h0
        exact absurd (Int32.lt_trans h3 h0) (by decide)), if_neg (Int32.not_le.mpr h3)]
    · rw [if_neg (by decide), if_pos (by decide)]
      simp only [obs, p0]; rfl
    · rw [if_neg (by decide), if_pos (by decide)]
      simp only [obs, p1]; rfl
    · rw [if_neg (by decide), if_pos (by decide)]
      simp only [obs, p2]; rfl
    · rw [if_neg (by decide), if_pos (by decide)]
      simp only [obs, p3]; rfl
  · have h' : inI x (CL G E F W).length = false := by simpa using h
    rw [h', atI_not h', if_pos (by rfl)]
theorem c_conflictKind (hc : RC codes count G) (hG : okG G) {se ps lo : Nat → Int32} (hT : TBx G E F W 0 se ps lo) (x : Int32) {N : Nat} (hN : 100 < N) : fX11_conflictKind N codes count E F se ps (nI (CL G E F W).length) x = some (aKd G E F W x) := by
  have hle := CL_le (E := E) (F := F) (W := W) hG
  have hl := hG.1
  unfold aKd
  simp only [fX11_conflictKind, c_isConflict x (show (CL G E F W).length < 2 ^ 31 by omega), obs, jn_]
  by_cases h : inI x (CL G E F W).length = true
  · obtain ⟨i, hi, rfl⟩ := inI_of (by omega) h
    have e1 : (CL G E F W)[i]? = some (CL G E F W)[i] := List.getElem?_eq_getElem hi
    obtain ⟨m1, m2, m3⟩ := CL_mem (List.getElem_mem hi)
    rw [atI_nI hi (by omega), e1, h, if_neg (by decide), c_conflictAt hc hG hT (by omega) hN, fnd_some e1]
    simp only [obs, c_kindOf hc hG m1 m2 m3 (show 5 < N by omega)]
  · have h' : inI x (CL G E F W).length = false := by simpa using h
    rw [h', atI_not h', if_pos (by rfl)]
theorem m_conflict (hM : RM rules lefts sizes rights G) (hG : okG G) {wk : Int32} {e0 : Int32} {f0 w0 : Nat → Int32} {s0 l0 t0 : Nat → Int32} {tl0 : Int32} {o1 : Int32} {s1 l1 t1 : Nat → Int32} {tl1 : Int32} {N : Nat} (hw : fX12_works N rules lefts sizes rights wk e0 f0 w0 s0 l0 t0 tl0 = some (o1, E, F, W, s1, l1, t1, tl1)) (a b c d x part : Int32) (hN : 30 < N) : ∃ a' b' c' d', fX12_conflict N rules lefts sizes rights wk e0 f0 w0 s0 l0 t0 tl0 a b c d x part = some (aCf (CL G E F W) x part, o1, E, F, W, s1, l1, t1, tl1, a', b', c', d') := by
  have hle := CL_le (E := E) (F := F) (W := W) hG
  simp only [fX12_conflict, hw, bd8, obs]
  rcases m_isConflict hM hG a b c d x (E := E) (F := F) (W := W) hN with ⟨h', e⟩ | ⟨i, y, rfl, hi, e1, e⟩
  · refine ⟨a, b, c, d, ?_⟩
    simp only [e, bd5, obs, jn_]
    rw [if_pos (by trivial)]
    unfold aCf
    rw [atI_not h']
  · refine ⟨nI (y.1 / 9), nI (y.1 % 9), nI y.2.1, nI y.2.2, ?_⟩
    simp only [e, bd5, obs, jn_]
    rw [if_neg (by decide)]
    unfold aCf
    rw [atI_nI hi (by omega), e1]
    have e4 : (nI 4 : Int32) - 1 = 3 := by decide
    have hin := m_in part (n := 4) (by decide)
    rw [e4] at hin
    rw [hin]
    simp only [obs]
    show _ = some (cfP y part, _)
    have n1 : inI part 4 = false → cfP y part = -1 := fun hf => by
      rcases inI_not (x := part) (n := 4) (by decide) (by rw [hf]; decide) with h | h
      · exact cfP_lo y h
      · refine cfP_hi y ?_
        refine Int32.lt_of_lt_of_le ?_ h
        decide
    cases hb : inI part 4 with
    | false =>
      rw [if_pos (by rfl), n1 hb]
    | true =>
      rw [if_neg (by decide)]
      unfold cfP
      obtain ⟨j, hj, rfl⟩ := inI_of (by decide) hb
      have : j = 0 ∨ j = 1 ∨ j = 2 ∨ j = 3 := by omega
      rcases this with rfl | rfl | rfl | rfl <;> rfl
theorem m_conflictKind (hM : RM rules lefts sizes rights G) (hG : okG G) {wk : Int32} {e0 : Int32} {f0 w0 : Nat → Int32} {s0 l0 t0 : Nat → Int32} {tl0 : Int32} {o1 : Int32} {s1 l1 t1 : Nat → Int32} {tl1 : Int32} {N : Nat} (hw : fX12_works N rules lefts sizes rights wk e0 f0 w0 s0 l0 t0 tl0 = some (o1, E, F, W, s1, l1, t1, tl1)) (a b c d x : Int32) (hN : 30 < N) : ∃ a' b' c' d', fX12_conflictKind N rules lefts sizes rights wk e0 f0 w0 s0 l0 t0 tl0 a b c d x = some (aKd G E F W x, o1, E, F, W, s1, l1, t1, tl1, a', b', c', d') := by
  have hle := CL_le (E := E) (F := F) (W := W) hG
  simp only [fX12_conflictKind, hw, bd8, obs]
  rcases m_isConflict hM hG a b c d x (E := E) (F := F) (W := W) hN with ⟨h', e⟩ | ⟨i, y, rfl, hi, e1, e⟩
  · refine ⟨a, b, c, d, ?_⟩
    simp only [e, bd5, obs, jn_]
    rw [if_pos (by trivial)]
    unfold aKd
    rw [atI_not h']
  · have hm := CL_mem (List.mem_of_getElem? e1)
    refine ⟨nI (y.1 / 9), nI (y.1 % 9), nI y.2.1, nI y.2.2, ?_⟩
    simp only [e, bd5, obs, jn_]
    rw [if_neg (by decide)]
    unfold aKd
    rw [atI_nI hi (by omega), e1]
    simp only [obs, m_kindNow hM hG hm.2.1 hm.2.2 (show 5 < N by omega)]
end KD2
