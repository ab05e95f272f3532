/-! THE REFERENCE'S new row: opened and put -/
section AD
variable {rules : Int32} {lefts sizes rights : Nat → Int32} {G : List gP}
theorem sym_wd {f : Nat → Int32} {m : Nat} (hf : ∀ k, k < m → (symI (f k)).isSome = true) : ∀ k, k < m → f k = nI (sy (wd f m) k) ∧ okS (sy (wd f m) k) := fun k hk => by
  rw [sy_wd f hk]
  rcases symI_cases (f k) with ⟨s, hs, e1, e2⟩ | ⟨_, _, e⟩
  · rw [e2]; exact ⟨e1, hs⟩
  · have := hf k hk
    rw [e] at this
    exact absurd this (by decide)
theorem okP_wd {f : Nat → Int32} {m l : Nat} (hl : l < 8) (hm : m ≤ 5) (hf : ∀ k, k < m → (symI (f k)).isSome = true) : okP (l, wd f m) := by
  refine ⟨hl, by show (wd f m).length ≤ 5; rw [wd_len]; exact hm, fun s hs => ?_⟩
  obtain ⟨k, hk, e⟩ := List.getElem_of_mem (show s ∈ wd f m from hs)
  have hk' : k < m := by rw [wd_len] at hk; exact hk
  have := (sym_wd hf k hk').2
  have e1 := sy_get hk
  rw [List.getElem?_eq_getElem hk] at e1
  injection e1 with e1
  rw [← e, e1]
  exact this
theorem m_opens (hM : RM rules lefts sizes rights G) {l : Nat} (h : G.length < 24) : fX12_opens rules lefts sizes (nI l) = some (nI G.length, nI (G.length + 1), upd lefts G.length (nI l), upd sizes G.length 0) := by
  simp only [fX12_opens]
  rw [hM.1, as_ok h]
  simp only [obs]
  rw [as_ok h]
  simp only [obs, lt_, nI_1]
  rw [nI_sub1 (by omega)]
  rfl
theorem m_added (hM : RM rules lefts sizes rights G) (hG : okG G) (h : G.length < 24) {f : Nat → Int32} {m l : Nat} (hl : l < 8) (hm : m ≤ 5) (hf : ∀ k, k < m → (symI (f k)).isSome = true) (k33) {N : Nat} (hN : 30 < N) : ∃ s' g', itr3 (bX12_addProduction_252 f (nI m) (nI G.length) k33) N 0 (upd sizes G.length 0) rights = k33 s' g' ∧ RM (nI (G.length + 1)) (upd lefts G.length (nI l)) s' g' (G ++ [(l, wd f m)]) := by
  obtain ⟨s', g', e, h1, h2, h3, h4⟩ := m_putLoop (upd sizes G.length 0) rights f hm h pk_us k33 hN
  refine ⟨s', g', e, by rw [List.length_append]; rfl, fun p hp => ?_⟩
  rw [gp_app _ _ _ hp]
  rw [List.length_append, List.length_singleton] at hp
  by_cases hpl : p < G.length
  · rw [if_pos hpl]
    obtain ⟨b1, b2, b3⟩ := hM.2 p hpl
    have h5 := (okG_gp hG hpl).2.1
    refine ⟨by rw [pk_un (by omega)]; exact b1, by rw [h2 p (by omega), pk_un (by omega)]; exact b2, fun i hi => ?_⟩
    rw [h4 _ (by omega)]
    exact b3 i hi
  · have : p = G.length := by omega
    subst this
    rw [if_neg hpl]
    refine ⟨pk_us, by rw [h1]; show nI m = nI (wd f m).length; rw [wd_len], fun i hi => ?_⟩
    have hi' : i < m := by have h0 : i < (wd f m).length := hi; rw [wd_len] at h0; exact h0
    rw [h3 i hi']
    exact (sym_wd hf i hi').1
theorem okG_app (hG : okG G) (h : G.length < 24) {q : gP} (hq : okP q) (hn : fstI (fun p => gp G p == q) G.length = none) : okG (G ++ [q]) := by
  refine ⟨by rw [List.length_append, List.length_singleton]; omega, fun r hr => ?_, ?_⟩
  · rcases List.mem_append.mp hr with hr | hr
    · exact hG.2.1 r hr
    · rw [List.mem_singleton.mp hr]; exact hq
  · rw [List.nodup_append]
    refine ⟨hG.2.2, by simp, fun a ha b hb => ?_⟩
    rw [List.mem_singleton.mp hb]
    intro e
    subst e
    obtain ⟨k, hk, e⟩ := List.getElem_of_mem ha
    unfold fstI at hn
    have := List.find?_eq_none.mp hn k (by simp; exact hk)
    refine this ?_
    have e2 : gp G k = G[k] := by simp [gp, List.getD, hk]
    rw [e2, e]
    simp
end AD
