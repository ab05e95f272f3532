/-! COPIES: the class's rules and sets taken over -/
theorem cpy_lt {f g : Nat → Int32} {k i : Nat} (h : i < k) : va_cpy f g 0 0 k i = f i := by
  unfold va_cpy
  simp [h]
theorem c_become {codes codes' : Nat → Int32} {count count' : Int32} {G : List gP} (hc : RC codes count G) (hG : okG G) : ∃ f1, fX6_become codes' count' codes count = some (f1, count) ∧ RC f1 count G := by
  have hl := hG.1
  refine ⟨va_cpy codes codes' 0 0 G.length, ?_, hc.1, fun p hp => ?_⟩
  · simp only [fX6_become]
    rw [hc.1, acp_ok hl hl (by omega)]
    rfl
  · rw [cpy_lt hp]
    exact hc.2 p hp
theorem c_setsBecome (E E' : Int32) (F F' W W' : Nat → Int32) : ∃ f1 f2, fX7_become E F W E' F' W' = some (E', f1, f2) ∧ (∀ n, n < 8 → f1 n = F' n) ∧ ∀ n, n < 8 → f2 n = W' n := by
  refine ⟨va_cpy F' F 0 0 8, va_cpy W' W 0 0 8, ?_, fun n hn => cpy_lt hn, fun n hn => cpy_lt hn⟩
  simp only [fX7_become]
  rw [n8, acp_ok (by decide) (by decide) (by decide)]
  simp only [obs]
  rw [acp_ok (by decide) (by decide) (by decide)]
  rfl
theorem m_keepsSets (E ik ke : Int32) (F W kF kW : Nat → Int32) {N : Nat} (hN : 30 < N) : ∃ f1 f2, fX12_keepsSets N E F W ik ke kF kW = some (1, E, f1, f2) ∧ (∀ n, n < 8 → f1 n = F n) ∧ ∀ n, n < 8 → f2 n = W n := by
  simp only [fX12_keepsSets, jn2]
  refine vlp3 (fun j i f w => i = nI j ∧ j ≤ 8 ∧ (∀ n, n < j → f n = F n) ∧ ∀ n, n < j → w n = W n) (fun (r : Option (Int32 × Int32 × (Nat → Int32) × (Nat → Int32))) => ∃ f1 f2, r = some (1, E, f1, f2) ∧ (∀ n, n < 8 → f1 n = F n) ∧ ∀ n, n < 8 → f2 n = W n) 8 ?_ ?_ N 0 kF kW (by omega) ⟨rfl, by omega, fun n hn => absurd hn (Nat.not_lt_zero _), fun n hn => absurd hn (Nat.not_lt_zero _)⟩
  · rintro j i f w hj ⟨rfl, _, h1, h2⟩
    left
    refine ⟨nI (j + 1), upd f j (F j), upd w j (W j), ⟨rfl, by omega, fun n hn => ?_, fun n hn => ?_⟩, fun rc => ?_⟩
    · by_cases e : n = j
      · subst e; exact pk_us
      · rw [pk_un e]; exact h1 n (by omega)
    · by_cases e : n = j
      · subst e; exact pk_us
      · rw [pk_un e]; exact h2 n (by omega)
    · simp only [bX12_keepsSets_15]
      rw [if_neg (nleL 8 8 hj), ag_ok hj]
      simp only [obs]
      rw [as_ok hj]
      simp only [obs]
      rw [ag_ok hj]
      simp only [obs]
      rw [as_ok hj]
      simp only [obs, lt_, nI_1]
  · rintro i f w ⟨rfl, _, h1, h2⟩
    refine ⟨_, ⟨f, w, rfl, h1, h2⟩, fun rc => ?_⟩
    simp only [bX12_keepsSets_15]
    rw [if_pos (by decide)]
