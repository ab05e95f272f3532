/-! EDITS of the rules: a place taken out, a production put behind, on both sides -/
section ED
variable {codes : Nat → Int32} {count rules : Int32} {lefts sizes rights : Nat → Int32} {G : List gP}
theorem gp_erase (G : List gP) (p k : Nat) : gp (G.eraseIdx p) k = if k < p then gp G k else gp G (k + 1) := by
  unfold gp
  simp only [List.getD_eq_getElem?_getD, List.getElem?_eraseIdx]
  split <;> rfl
theorem gp_app (G : List gP) (q : gP) (k : Nat) (h : k < (G ++ [q]).length) : gp (G ++ [q]) k = if k < G.length then gp G k else q := by
  unfold gp
  simp only [List.getD_eq_getElem?_getD]
  rw [List.length_append, List.length_singleton] at h
  split
  · rename_i h1
    rw [List.getElem?_append_left h1]
  · have : k = G.length := by omega
    subst this
    rw [List.getElem?_append_right (Nat.le_refl _), Nat.sub_self]
    rfl
theorem okG_erase (hG : okG G) (p : Nat) : okG (G.eraseIdx p) := by
  refine ⟨Nat.le_trans (List.length_eraseIdx_le _ _) hG.1, fun q hq => hG.2.1 q (List.mem_of_mem_eraseIdx hq), ?_⟩
  exact hG.2.2.sublist (List.eraseIdx_sublist _ _)
theorem c_removeAt (hc : RC codes count G) (hG : okG G) {p : Nat} (hp : p < G.length) {N : Nat} (hN : 30 < N) : ∃ codes' count', fX6_removeAt N codes count (nI p) = some (codes', count') ∧ RC codes' count' (G.eraseIdx p) := by
  have hl := hG.1
  have hlen : (G.eraseIdx p).length = G.length - 1 := List.length_eraseIdx_of_lt hp
  simp only [fX6_removeAt, jn_, lt_, nI_1]
  refine vlp2 (fun j i f => i = nI (p + 1 + j) ∧ p + 1 + j ≤ G.length ∧ (∀ k, k < p → f k = codes k) ∧ (∀ k, p ≤ k → k < p + j → f k = codes (k + 1)) ∧ ∀ k, p + j ≤ k → f k = codes k) (fun r => ∃ codes' count', r = some (codes', count') ∧ RC codes' count' (G.eraseIdx p)) (G.length - (p + 1)) ?_ ?_ N _ codes (by omega) ⟨rfl, by omega, fun _ _ => rfl, fun k h1 h2 => by omega, fun _ _ => rfl⟩
  · rintro j i f hj ⟨rfl, hb, h1, h2, h3⟩
    left
    refine ⟨nI (p + 1 + (j + 1)), upd f (p + j) (codes (p + 1 + j)), ⟨rfl, by omega, fun k hk => ?_, fun k hk1 hk2 => ?_, fun k hk => ?_⟩, fun rc => ?_⟩
    · rw [pk_un (by omega)]; exact h1 k hk
    · by_cases e : k = p + j
      · subst e; rw [pk_us]; congr 1; omega
      · rw [pk_un e]; exact h2 k hk1 (by omega)
    · rw [pk_un (by omega)]; exact h3 k (by omega)
    · have e1 : nI (p + 1 + j) - (1 : Int32) = nI (p + j) := by
        rw [nI_sub1 (by omega)]; congr 1; omega
      simp only [bX6_removeAt_4]
      rw [hc.1, if_neg (nI_ge (by omega) (by omega)), ag_ok (show p + 1 + j < 24 by omega)]
      simp only [obs, e1]
      rw [as_ok (show p + j < 24 by omega), h3 _ (by omega)]
      simp only [obs, lt_, nI_1]
      rfl
  · rintro i f ⟨rfl, hb, h1, h2, h3⟩
    have e : p + 1 + (G.length - (p + 1)) = G.length := by omega
    refine ⟨_, ⟨f, nI (G.length - 1), rfl, by rw [hlen], fun k hk => ?_⟩, fun rc => ?_⟩
    · rw [hlen] at hk
      rw [gp_erase]
      by_cases hkp : k < p
      · rw [if_pos hkp, h1 k hkp, hc.2 k (by omega)]
      · rw [if_neg hkp, h2 k (by omega) (by omega), hc.2 (k + 1) (by omega)]
    · simp only [bX6_removeAt_4]
      rw [e, hc.1, if_pos (Int32.le_refl _), nI_sub1 (by omega)]
theorem c_add (hc : RC codes count G) {q : gP} (hl : G.length < 24) : ∃ codes' count', fX6_add codes count (nI (enc q)) = some (codes', count') ∧ RC codes' count' (G ++ [q]) := by
  simp only [fX6_add, jn2]
  rw [hc.1, if_neg (nleL 24 24 hl), as_ok hl]
  simp only [obs, lt_, nI_1]
  refine ⟨_, _, rfl, by rw [List.length_append]; rfl, fun k hk => ?_⟩
  rw [gp_app G q k hk]
  by_cases h : k < G.length
  · rw [if_pos h, pk_un (by omega)]; exact hc.2 k h
  · rw [List.length_append, List.length_singleton] at hk
    have : k = G.length := by omega
    subst this
    rw [if_neg h, pk_us]
def dropR (j i : Nat) (f : Nat → Int32) : Nat → Int32 := fun k => if 5 * j ≤ k ∧ k < 5 * j + i then f (k + 5) else f k
theorem dropR_S (j i : Nat) (f : Nat → Int32) : upd (dropR j i f) (5 * j + i) (f (5 * (j + 1) + i)) = dropR j (i + 1) f := by
  funext k
  by_cases e : k = 5 * j + i
  · subst e
    rw [pk_us]
    unfold dropR
    rw [if_pos (by omega)]
    congr 1; omega
  · rw [pk_un e]
    unfold dropR
    by_cases h : 5 * j ≤ k ∧ k < 5 * j + i
    · rw [if_pos h, if_pos (by omega)]
    · rw [if_neg h, if_neg (by omega)]
theorem m_dropRow {j : Nat} (hj : 5 * (j + 1) + 5 ≤ 120) (f : Nat → Int32) (K : (Nat → Int32) → Option (Int32 × (Nat → Int32) × (Nat → Int32) × (Nat → Int32))) {N : Nat} (hN : 30 < N) : itr2 (bX12_drops_42 (nI j) K) N 0 f = K (dropR j 5 f) := by
  refine vlp2 (fun i v g => v = nI i ∧ i ≤ 5 ∧ g = dropR j i f) (fun r => r = K (dropR j 5 f)) 5 ?_ ?_ N 0 f (by omega) ⟨rfl, by omega, ?_⟩
  · rintro i v g hi ⟨rfl, hb, rfl⟩
    left
    refine ⟨nI (i + 1), _, ⟨rfl, by omega, (dropR_S j i f).symm.symm⟩, fun rc => ?_⟩
    have n5' : (5 : Int32) = nI 5 := rfl
    simp only [bX12_drops_42]
    rw [n5', if_neg (nI_ge hi (by decide)), nI_1, pk_mul, nI_add, ag_ok (by omega)]
    simp only [obs]
    rw [pk_mul, nI_add, as_ok (by omega)]
    have e : dropR j i f (5 * (j + 1) + i) = f (5 * (j + 1) + i) := by
      unfold dropR
      rw [if_neg (by omega)]
    simp only [obs, lt_, nI_1, e]
  · rintro v g ⟨rfl, hb, rfl⟩
    refine ⟨_, rfl, fun rc => ?_⟩
    simp only [bX12_drops_42]
    rw [if_pos (by decide)]
  · funext k
    unfold dropR
    rw [if_neg (by omega)]
end ED
