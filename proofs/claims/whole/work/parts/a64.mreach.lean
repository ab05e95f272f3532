/-! THE REFERENCE'S productive and reachable -/
theorem m_isName (x : Int32) : fX12_isName x = some (b01 (inI x 8)) := by
  have h := m_in x (n := 8) (by decide)
  have e : (nI 8 : Int32) - 1 = 7 := by decide
  rw [e] at h
  simp only [fX12_isName, h, obs]
  unfold gz
  rw [if_pos (b01_01 _)]
def nmI (x : Int32) (f : Nat → Int32) : Int32 := if inI x 8 = true then f x.toNatClampNeg else -1
section MPR
variable {rules : Int32} {lefts sizes rights : Nat → Int32} {G : List gP}
theorem ntI_sb_take {w : List Nat} {j : Nat} (h : j < w.length) (hs : sy w j < 18) {F : Int32} : (ntI (w.take (j + 1)) ||| F = F) ↔ (ntI (w.take j) ||| F = F) ∧ (sy w j < 10 ∨ tb F (sy w j - 10) = true) := by
  rw [ntI_take h]
  constructor
  · intro e
    have e : sb (ntI (w.take j) ||| (if sy w j < 10 then 0 else bitI (sy w j - 10))) F := e
    refine ⟨sb_trans (sb_or_l _ _) e, ?_⟩
    by_cases h10 : sy w j < 10
    · exact Or.inl h10
    · right
      rw [if_neg h10] at e
      exact (sb_bitI_iff (by omega)).mp (sb_trans (sb_or_r _ _) e)
  · rintro ⟨e1, e2⟩
    refine sb_or e1 ?_
    by_cases h10 : sy w j < 10
    · rw [if_pos h10]; exact sb_zero _
    · rw [if_neg h10]
      exact (sb_bitI_iff (by omega)).mpr (e2.resolve_left h10)
theorem m_prStep (hM : RM rules lefts sizes rights G) (hG : okG G) {p : Nat} (hp : p < G.length) (F : Int32) {N : Nat} (hN : 30 < N) : ∃ b : Bool, (b = decide (ntI (gp G p).2 ||| F = F)) ∧ ∀ k19, itr2 (bX12_productive_37 sizes rights F (nI p) k19) N 1 0 = k19 (b01 b) := by
  have hq := okG_gp hG hp
  have h5 := hq.2.1
  have hl := hG.1
  refine ⟨_, rfl, fun k19 => ?_⟩
  refine vlp2 (B := bX12_productive_37 sizes rights F (nI p) k19) (fun j x i => i = nI j ∧ j ≤ (gp G p).2.length ∧ x = b01 (decide (ntI ((gp G p).2.take j) ||| F = F))) (fun r => r = k19 (b01 (decide (ntI (gp G p).2 ||| F = F)))) (gp G p).2.length ?_ ?_ N 1 0 (by omega) ⟨rfl, Nat.zero_le _, ?_⟩
  · rintro j x i hj ⟨rfl, _, rfl⟩
    left
    have hs18 := okS_lt (okP_sy hq hj)
    refine ⟨b01 (decide (ntI ((gp G p).2.take (j + 1)) ||| F = F)), nI (j + 1), ⟨rfl, by omega, rfl⟩, fun rc => ?_⟩
    have key := ntI_sb_take hj hs18 (F := F)
    simp only [bX12_productive_37, ag_ok (show p < 24 by omega), obs, (hM.2 p hp).2.1, jn_, lt_, nI_1]
    rw [if_neg (nI_ge hj (by omega))]
    simp only [m_symbol hM hG hp hj, obs]
    by_cases e : ntI ((gp G p).2.take j) ||| F = F
    · rw [if_neg (by simp [b01, e])]
      by_cases h10 : sy (gp G p).2 j < 10
      · rw [if_pos (lt10 h10)]
        have : ntI ((gp G p).2.take (j + 1)) ||| F = F := key.mpr ⟨e, Or.inl h10⟩
        simp [b01, this]
      · rw [if_neg (nlt10 h10 hs18), sub10 h10, bit01]
        cases ht : tb F (sy (gp G p).2 j - 10) with
        | true =>
          have : ntI ((gp G p).2.take (j + 1)) ||| F = F := key.mpr ⟨e, Or.inr ht⟩
          simp [b01, this]
        | false =>
          have : ¬ ntI ((gp G p).2.take (j + 1)) ||| F = F := fun q => by
            rcases (key.mp q).2 with z | z
            · exact h10 z
            · rw [ht] at z; exact absurd z (by decide)
          simp [b01, this]
    · rw [if_pos (by simp [b01, e])]
      have : ¬ ntI ((gp G p).2.take (j + 1)) ||| F = F := fun q => e (key.mp q).1
      simp [b01, this]
  · rintro x i ⟨rfl, _, rfl⟩
    refine ⟨_, rfl, fun rc => ?_⟩
    simp only [bX12_productive_37, ag_ok (show p < 24 by omega), obs, (hM.2 p hp).2.1]
    rw [if_pos (Int32.le_refl _), List.take_length]
  · have : ntI (List.take 0 (gp G p).2) ||| F = F := sb_zero F
    rw [this]; simp [b01]
theorem m_productive (hM : RM rules lefts sizes rights G) (hG : okG G) (x : Int32) {N : Nat} (hN : 30 < N) : fX12_productive N rules lefts sizes rights x = some (nmI x fun n => b01 (tb (foldN (fun _ => fPr G) 8 0) n)) := by
  have hl := hG.1
  simp only [fX12_productive, m_isName, obs, jn_]
  unfold nmI
  by_cases hx : inI x 8 = true
  · obtain ⟨n, hn, rfl⟩ := inI_of (by decide) hx
    rw [hx, if_neg (by decide), if_pos rfl, nI_clamp (by omega)]
    refine vlp2 (B := bX12_productive_13 N rules lefts sizes rights fun v2 => some ((v2 >>> (nI n &&& (31 : Int32))) &&& (1 : Int32))) (fun j F k => k = nI j ∧ j ≤ 8 ∧ F = foldN (fun _ => fPr G) j 0) (fun r => r = some (b01 (tb (foldN (fun _ => fPr G) 8 0) n))) 8 ?_ ?_ N 0 0 (by omega) ⟨rfl, Nat.zero_le _, rfl⟩
    · rintro j F k hj ⟨rfl, _, rfl⟩
      left
      refine ⟨fPr G (foldN (fun _ => fPr G) j 0), nI (j + 1), ⟨rfl, by omega, rfl⟩, fun rc => ?_⟩
      generalize foldN (fun _ => fPr G) j 0 = F
      simp only [bX12_productive_13]
      rw [if_neg (nleL 8 8 hj)]
      simp only [jn_]
      refine vlp2 (B := bX12_productive_22 N rules lefts sizes rights fun v7 => lt_ (nI j + 1) fun x8 => rc v7 x8) (fun p x i => i = nI p ∧ p ≤ G.length ∧ x = foldN (stPr G) p F) (fun r => r = rc (fPr G F) (nI (j + 1))) G.length ?_ ?_ N F 0 (by omega) ⟨rfl, Nat.zero_le _, rfl⟩
      · rintro p x i hp ⟨rfl, _, rfl⟩
        left
        refine ⟨stPr G p (foldN (stPr G) p F), nI (p + 1), ⟨rfl, by omega, rfl⟩, fun rc => ?_⟩
        generalize foldN (stPr G) p F = x
        obtain ⟨b, hb, hrun⟩ := m_prStep hM hG hp x hN
        simp only [bX12_productive_22]
        rw [hM.1, if_neg (nI_ge hp (by omega))]
        simp only [jn_]
        rw [hrun, ag_ok (show p < 24 by omega)]
        simp only [obs, (hM.2 p hp).1, lt_, nI_1]
        unfold stPr
        by_cases e : ntI (gp G p).2 ||| x = x
        · rw [if_pos e, hb, if_neg (by simp [b01, e])]; rfl
        · rw [if_neg e, hb, if_pos (by simp [b01, e]), Int32.or_zero]
      · rintro x i ⟨rfl, _, rfl⟩
        refine ⟨_, rfl, fun rc => ?_⟩
        simp only [bX12_productive_22]
        rw [hM.1, if_pos (Int32.le_refl _)]
        simp only [lt_, nI_1]
        rfl
    · rintro F k ⟨rfl, _, rfl⟩
      refine ⟨_, rfl, fun rc => ?_⟩
      simp only [bX12_productive_13]
      rw [if_pos (by decide), bit01]
  · have hx' : inI x 8 = false := by simpa using hx
    rw [hx', if_pos (by rfl), if_neg (by decide)]
theorem m_reStep (hM : RM rules lefts sizes rights G) (hG : okG G) {p : Nat} (hp : p < G.length) (F : Int32) {N : Nat} (hN : 30 < N) (k15 : Int32 → Option Int32) : itr2 (bX12_reachable_34 lefts sizes rights (nI p) k15) N F 0 = k15 (stRe G p F) := by
  have hq := okG_gp hG hp
  have h5 := hq.2.1
  have h8 := hq.1
  have hl := hG.1
  unfold stRe
  cases ht : tb F (gp G p).1 with
  | false =>
    rw [if_neg (by decide)]
    refine vlp2 (B := bX12_reachable_34 lefts sizes rights (nI p) k15) (fun _ x i => x = F ∧ i = 0) (fun r => r = k15 F) 0 (fun j _ _ hj => absurd hj (Nat.not_lt_zero _)) ?_ N F 0 (by omega) ⟨rfl, rfl⟩
    rintro x i ⟨rfl, rfl⟩
    refine ⟨_, rfl, fun rc => ?_⟩
    simp only [bX12_reachable_34, ag_ok (show p < 24 by omega), obs, (hM.2 p hp).2.1, (hM.2 p hp).1, bit01, ht]
    by_cases h0 : nI (gp G p).2.length ≤ 0
    · rw [if_pos h0]
    · rw [if_neg h0, if_neg (by decide)]
  | true =>
    rw [if_pos rfl]
    refine vlp2 (B := bX12_reachable_34 lefts sizes rights (nI p) k15) (fun j x i => i = nI j ∧ j ≤ (gp G p).2.length ∧ x = F ||| ntI ((gp G p).2.take j)) (fun r => r = k15 (F ||| ntI (gp G p).2)) (gp G p).2.length ?_ ?_ N F 0 (by omega) ⟨rfl, Nat.zero_le _, by
      show F = F ||| 0
      rw [Int32.or_zero]⟩
    · rintro j x i hj ⟨rfl, _, rfl⟩
      left
      have hs18 := okS_lt (okP_sy hq hj)
      refine ⟨F ||| ntI ((gp G p).2.take (j + 1)), nI (j + 1), ⟨rfl, by omega, rfl⟩, fun rc => ?_⟩
      have ht2 : tb (F ||| ntI ((gp G p).2.take j)) (gp G p).1 = true := tb_mono (sb_or_l _ _) (by omega) ht
      simp only [bX12_reachable_34, ag_ok (show p < 24 by omega), obs, (hM.2 p hp).2.1, (hM.2 p hp).1, bit01, ht2]
      rw [if_neg (nI_ge hj (by omega)), if_pos (by rfl), m_symbol hM hG hp hj, ntI_take hj]
      simp only [obs, jn_, lt_, nI_1]
      by_cases h10 : sy (gp G p).2 j < 10
      · rw [if_pos (lt10 h10), if_pos h10, Int32.or_zero, Int32.or_zero]
      · rw [if_neg (nlt10 h10 hs18), if_neg h10, sub10 h10, Int32.or_assoc]
        rfl
    · rintro x i ⟨rfl, _, rfl⟩
      refine ⟨_, rfl, fun rc => ?_⟩
      simp only [bX12_reachable_34, ag_ok (show p < 24 by omega), obs, (hM.2 p hp).2.1]
      rw [if_pos (Int32.le_refl _), List.take_length]
theorem m_reachable (hM : RM rules lefts sizes rights G) (hG : okG G) (x : Int32) {N : Nat} (hN : 30 < N) : fX12_reachable N rules lefts sizes rights x = some (nmI x fun n => b01 (tb (foldN (fun _ => fRe G) 8 1) n)) := by
  have hl := hG.1
  simp only [fX12_reachable, m_isName, obs, jn_]
  unfold nmI
  by_cases hx : inI x 8 = true
  · obtain ⟨n, hn, rfl⟩ := inI_of (by decide) hx
    rw [hx, if_neg (by decide), if_pos rfl, nI_clamp (by omega)]
    refine vlp2 (B := bX12_reachable_13 N rules lefts sizes rights fun v2 => some ((v2 >>> (nI n &&& (31 : Int32))) &&& (1 : Int32))) (fun j F k => k = nI j ∧ j ≤ 8 ∧ F = foldN (fun _ => fRe G) j 1) (fun r => r = some (b01 (tb (foldN (fun _ => fRe G) 8 1) n))) 8 ?_ ?_ N 1 0 (by omega) ⟨rfl, Nat.zero_le _, rfl⟩
    · rintro j F k hj ⟨rfl, _, rfl⟩
      left
      refine ⟨fRe G (foldN (fun _ => fRe G) j 1), nI (j + 1), ⟨rfl, by omega, rfl⟩, fun rc => ?_⟩
      generalize foldN (fun _ => fRe G) j 1 = F
      simp only [bX12_reachable_13]
      rw [if_neg (nleL 8 8 hj)]
      simp only [jn_]
      refine vlp2 (B := bX12_reachable_22 N rules lefts sizes rights fun v7 => lt_ (nI j + 1) fun x8 => rc v7 x8) (fun p x i => i = nI p ∧ p ≤ G.length ∧ x = foldN (stRe G) p F) (fun r => r = rc (fRe G F) (nI (j + 1))) G.length ?_ ?_ N F 0 (by omega) ⟨rfl, Nat.zero_le _, rfl⟩
      · rintro p x i hp ⟨rfl, _, rfl⟩
        left
        refine ⟨stRe G p (foldN (stRe G) p F), nI (p + 1), ⟨rfl, by omega, rfl⟩, fun rc => ?_⟩
        generalize foldN (stRe G) p F = x
        simp only [bX12_reachable_22]
        rw [hM.1, if_neg (nI_ge hp (by omega))]
        simp only [jn_]
        rw [m_reStep hM hG hp x hN]
        simp only [lt_, nI_1]
      · rintro x i ⟨rfl, _, rfl⟩
        refine ⟨_, rfl, fun rc => ?_⟩
        simp only [bX12_reachable_22]
        rw [hM.1, if_pos (Int32.le_refl _)]
        simp only [lt_, nI_1]
        rfl
    · rintro F k ⟨rfl, _, rfl⟩
      refine ⟨_, rfl, fun rc => ?_⟩
      simp only [bX12_reachable_13]
      rw [if_pos (by decide), bit01]
  · have hx' : inI x 8 = false := by simpa using hx
    rw [hx', if_pos (by rfl), if_neg (by decide)]
end MPR
