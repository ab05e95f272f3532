/-! PRODUCTIVE AND REACHABLE -/
def ntI : List Nat → Int32
  | [] => 0
  | s :: r => (if s < 10 then 0 else bitI (s - 10)) ||| ntI r
theorem ntI_app : ∀ a b, ntI (a ++ b) = ntI a ||| ntI b
  | [], b => by
    show ntI b = 0 ||| ntI b
    rw [sb_zero]
  | s :: r, b => by
    simp only [List.cons_append, ntI]
    rw [ntI_app r b, Int32.or_assoc]
theorem ntI_take {w : List Nat} {j : Nat} (h : j < w.length) : ntI (w.take (j + 1)) = ntI (w.take j) ||| (if sy w j < 10 then 0 else bitI (sy w j - 10)) := by
  rw [take_sy h, ntI_app]
  show _ ||| ((if sy w j < 10 then 0 else bitI (sy w j - 10)) ||| (0 : Int32)) = _
  rw [Int32.or_zero]
theorem c_nonterminalsIn {q : gP} (hq : okP q) {N : Nat} (hN : 30 < N) : fX6_nonterminalsIn N (nI (enc q)) = some (ntI q.2) := by
  have h5 := hq.2.1
  simp only [fX6_nonterminalsIn, jn_]
  refine vlp2 (B := bX6_nonterminalsIn_4 (nI (enc q)) fun v1 => some v1) (fun j s i => i = nI j ∧ j ≤ q.2.length ∧ s = ntI (q.2.take j)) (fun r => r = some (ntI q.2)) q.2.length ?_ ?_ N 0 0 (by omega) ⟨rfl, Nat.zero_le _, rfl⟩
  · rintro j s i hj ⟨rfl, _, rfl⟩
    left
    have hs18 := okS_lt (okP_sy hq hj)
    refine ⟨ntI (q.2.take (j + 1)), nI (j + 1), ⟨rfl, by omega, rfl⟩, fun rc => ?_⟩
    rw [ntI_take hj]
    simp only [bX6_nonterminalsIn_4, c_lengthOf hq, obs]
    rw [if_neg (nI_ge hj (by omega)), c_symbolOf hq hj]
    simp only [obs, jn_, lt_, nI_1]
    by_cases h10 : sy q.2 j < 10
    · rw [if_pos (lt10 h10), if_pos h10, Int32.or_zero]
    · rw [if_neg (nlt10 h10 hs18), if_neg h10, sub10 h10]
      rfl
  · rintro s i ⟨rfl, _, rfl⟩
    refine ⟨_, rfl, fun rc => ?_⟩
    simp only [bX6_nonterminalsIn_4, c_lengthOf hq, obs]
    rw [if_pos (Int32.le_refl _), List.take_length]
theorem sb_255 : ∀ j, j < 8 → sb (bitI j) 255 := by
  have : ∀ j, j < 8 → bitI j ||| 255 = 255 := by decide +kernel
  exact this
theorem ntI_255 : ∀ (w : List Nat), (∀ s ∈ w, s < 18) → sb (ntI w) 255
  | [], _ => sb_zero _
  | s :: r, h => by
    have h1 := h s List.mem_cons_self
    refine sb_or ?_ (ntI_255 r (fun x hx => h x (List.mem_cons_of_mem _ hx)))
    by_cases h10 : s < 10
    · rw [if_pos h10]; exact sb_zero _
    · rw [if_neg h10]; exact sb_255 _ (by omega)
theorem pcI_255 {x : Int32} (h : sb x 255) : pcI x ≤ 8 := Nat.le_trans (pcI_mono h) (by decide +kernel)
/-- eight rounds are enough -/
theorem rounds8 {f : Int32 → Int32} (hup : ∀ x, sb x (f x)) (h255 : ∀ x, sb x 255 → sb (f x) 255) {x0 : Int32} (h0 : sb x0 255) : ∀ n, 8 ≤ n → f (foldN (fun _ => f) n x0) = foldN (fun _ => f) n x0 := by
  have hb : ∀ n, sb (foldN (fun _ => f) n x0) 255 := by
    intro n
    induction n with
    | zero => exact h0
    | succ n ih => exact h255 _ ih
  have key : ∀ n, (f (foldN (fun _ => f) n x0) = foldN (fun _ => f) n x0) ∨ n < pcI (f (foldN (fun _ => f) n x0)) := by
    intro n
    induction n with
    | zero =>
      by_cases e : f x0 = x0
      · exact Or.inl e
      · right
        have := pcI_lt (hup x0) (fun q => e q.symm)
        show 0 < pcI (f x0)
        omega
    | succ n ih =>
      rcases ih with e | hlt
      · left
        show f (f (foldN (fun _ => f) n x0)) = f (foldN (fun _ => f) n x0)
        rw [e, e]
      · by_cases e : f (f (foldN (fun _ => f) n x0)) = f (foldN (fun _ => f) n x0)
        · exact Or.inl e
        · right
          have := pcI_lt (hup (f (foldN (fun _ => f) n x0))) (fun q => e q.symm)
          show n + 1 < pcI (f (f (foldN (fun _ => f) n x0)))
          omega
  intro n hn
  rcases key n with e | hlt
  · exact e
  · have := pcI_255 (h255 _ (hb n))
    omega
theorem it_stable {f : Int32 → Int32} {x0 : Int32} {j : Nat} (h : f (foldN (fun _ => f) j x0) = foldN (fun _ => f) j x0) : ∀ n, j ≤ n → foldN (fun _ => f) n x0 = foldN (fun _ => f) j x0
  | 0, hn => by
    have : j = 0 := by omega
    subst this; rfl
  | n + 1, hn => by
    by_cases e : j = n + 1
    · subst e; rfl
    · have ih := it_stable h n (by omega)
      show f (foldN (fun _ => f) n x0) = _
      rw [ih, h]
/-- the class's rounds over one set -/
theorem roundsI {B : (Int32 → Int32 → Int32 → Option Int32) → Int32 → Int32 → Int32 → Option Int32} {f : Int32 → Int32} {x0 : Int32} (hup : ∀ x, sb x (f x)) (h255 : ∀ x, sb x 255 → sb (f x) 255) (h0 : sb x0 255)
    (hx : ∀ rc v j, j < 1000 → B rc v 0 (nI j) = some v) (hs : ∀ rc v j, j < 1000 → B rc v 1 (nI j) = rc (f v) (if f v = v then 0 else 1) (nI (j + 1))) {N : Nat} (hN : 100 < N) : itr3 B N x0 1 0 = some (foldN (fun _ => f) 8 x0) := by
  refine vlp3 (B := B) (fun j v c r => r = nI j ∧ ((c = 1 ∧ j ≤ 8 ∧ v = foldN (fun _ => f) j x0) ∨ (c = 0 ∧ v = foldN (fun _ => f) 8 x0))) (fun r => r = some (foldN (fun _ => f) 8 x0)) 20 ?_ ?_ N x0 1 0 (by omega) ⟨rfl, Or.inl ⟨rfl, by omega, rfl⟩⟩
  · rintro j v c r hj ⟨rfl, ⟨rfl, hj8, rfl⟩ | ⟨rfl, rfl⟩⟩
    · left
      refine ⟨f (foldN (fun _ => f) j x0), _, nI (j + 1), ⟨rfl, ?_⟩, fun rc => hs rc _ j (by omega)⟩
      by_cases e : f (foldN (fun _ => f) j x0) = foldN (fun _ => f) j x0
      · rw [if_pos e, e]
        exact Or.inr ⟨rfl, (it_stable e 8 hj8).symm⟩
      · rw [if_neg e]
        refine Or.inl ⟨rfl, ?_, rfl⟩
        rcases Nat.lt_or_ge j 8 with q | q
        · omega
        · exact absurd (rounds8 hup h255 h0 j q) e
    · right
      exact ⟨_, rfl, fun rc => hx rc _ j (by omega)⟩
  · rintro v c r ⟨rfl, ⟨_, hj8, _⟩ | ⟨rfl, rfl⟩⟩
    · omega
    · exact ⟨_, rfl, fun rc => hx rc _ 20 (by omega)⟩
-- one production
def stPr (G : List gP) (p : Nat) (F : Int32) : Int32 := if ntI (gp G p).2 ||| F = F then F ||| bitI (gp G p).1 else F
def stRe (G : List gP) (p : Nat) (F : Int32) : Int32 := if tb F (gp G p).1 = true then F ||| ntI (gp G p).2 else F
def fPr (G : List gP) (F : Int32) : Int32 := foldN (stPr G) G.length F
def fRe (G : List gP) (F : Int32) : Int32 := foldN (stRe G) G.length F
theorem fold_up {st : Nat → Int32 → Int32} (h : ∀ p x, sb x (st p x)) (x : Int32) : ∀ n, sb x (foldN st n x)
  | 0 => sb_rfl _
  | n + 1 => sb_trans (fold_up h x n) (h n _)
theorem fold_255 {st : Nat → Int32 → Int32} {m : Nat} (h : ∀ p x, p < m → sb x 255 → sb (st p x) 255) {x : Int32} (hx : sb x 255) : ∀ n, n ≤ m → sb (foldN st n x) 255
  | 0, _ => hx
  | n + 1, hn => h n _ (by omega) (fold_255 h hx n (by omega))
theorem fPr_up (G : List gP) (x : Int32) : sb x (fPr G x) := fold_up (fun p x => by
  unfold stPr
  split
  · exact sb_or_l _ _
  · exact sb_rfl _) x _
theorem fRe_up (G : List gP) (x : Int32) : sb x (fRe G x) := fold_up (fun p x => by
  unfold stRe
  split
  · exact sb_or_l _ _
  · exact sb_rfl _) x _
theorem fPr_255 {G : List gP} (hG : okG G) (x : Int32) (hx : sb x 255) : sb (fPr G x) 255 := fold_255 (m := G.length) (fun p x hp hx => by
  unfold stPr
  split
  · exact sb_or hx (sb_255 _ (okG_gp hG hp).1)
  · exact hx) hx _ (Nat.le_refl _)
theorem fRe_255 {G : List gP} (hG : okG G) (x : Int32) (hx : sb x 255) : sb (fRe G x) 255 := fold_255 (m := G.length) (fun p x hp hx => by
  unfold stRe
  split
  · exact sb_or hx (ntI_255 _ (okP18 (okG_gp hG hp)))
  · exact hx) hx _ (Nat.le_refl _)
section CPR
variable {codes : Nat → Int32} {count : Int32} {G : List gP}
theorem c_productive (hc : RC codes count G) (hG : okG G) {N : Nat} (hN : 100 < N) : fX7_productiveOnes N codes count = some (foldN (fun _ => fPr G) 8 0) := by
  have hl := hG.1
  simp only [fX7_productiveOnes, jn_]
  have hsw : ∀ (F : Int32) (k11 : Int32 → Option Int32), itr2 (bX7_productiveOnes_25 N codes count k11) N F 0 = k11 (fPr G F) := by
    intro F k11
    refine vlp2 (B := bX7_productiveOnes_25 N codes count k11) (fun j x i => i = nI j ∧ j ≤ G.length ∧ x = foldN (stPr G) j F) (fun r => r = k11 (fPr G F)) G.length ?_ ?_ N F 0 (by omega) ⟨rfl, Nat.zero_le _, rfl⟩
    · rintro j x i hj ⟨rfl, _, rfl⟩
      left
      have hq := okG_gp hG hj
      refine ⟨stPr G j (foldN (stPr G) j F), nI (j + 1), ⟨rfl, by omega, rfl⟩, fun rc => ?_⟩
      generalize foldN (stPr G) j F = x
      simp only [bX7_productiveOnes_25]
      rw [hc.1, if_neg (nI_ge hj (by omega)), ag_ok (show j < 24 by omega)]
      simp only [obs, hc.2 j hj, c_nonterminalsIn hq (show 30 < N by omega), c_leftOf hq, jn_, lt_, nI_1]
      unfold stPr
      by_cases e : ntI (gp G j).2 ||| x = x
      · rw [if_pos ((and_not_zero_iff _ _).mpr (by rw [Int32.or_comm]; exact e)), if_pos e]; rfl
      · rw [if_neg (fun h => e (by rw [Int32.or_comm]; exact (and_not_zero_iff _ _).mp h)), if_neg e]
    · rintro x i ⟨rfl, _, rfl⟩
      refine ⟨_, rfl, fun rc => ?_⟩
      simp only [bX7_productiveOnes_25]
      rw [hc.1, if_pos (Int32.le_refl _)]; rfl
  refine roundsI (fPr_up G) (fPr_255 hG) (sb_zero _) ?_ ?_ hN
  · intro rc v j hj
    simp only [bX7_productiveOnes_7]
    rw [if_neg (nleL 1000 1000 hj), if_true]
  · intro rc v j hj
    simp only [bX7_productiveOnes_7]
    rw [if_neg (nleL 1000 1000 hj), if_neg (by decide)]
    simp only [jn_]
    rw [hsw]
    simp only [lt_, nI_1]
    by_cases e : fPr G v = v
    · rw [if_pos e, if_pos e]
    · rw [if_neg e, if_neg e]
theorem c_reachable (hc : RC codes count G) (hG : okG G) {N : Nat} (hN : 100 < N) : fX7_reachableOnes N codes count = some (foldN (fun _ => fRe G) 8 1) := by
  have hl := hG.1
  simp only [fX7_reachableOnes, jn_]
  have hsw : ∀ (F : Int32) (k11 : Int32 → Option Int32), itr2 (bX7_reachableOnes_25 N codes count k11) N F 0 = k11 (fRe G F) := by
    intro F k11
    refine vlp2 (B := bX7_reachableOnes_25 N codes count k11) (fun j x i => i = nI j ∧ j ≤ G.length ∧ x = foldN (stRe G) j F) (fun r => r = k11 (fRe G F)) G.length ?_ ?_ N F 0 (by omega) ⟨rfl, Nat.zero_le _, rfl⟩
    · rintro j x i hj ⟨rfl, _, rfl⟩
      left
      have hq := okG_gp hG hj
      refine ⟨stRe G j (foldN (stRe G) j F), nI (j + 1), ⟨rfl, by omega, rfl⟩, fun rc => ?_⟩
      generalize foldN (stRe G) j F = x
      simp only [bX7_reachableOnes_25]
      rw [hc.1, if_neg (nI_ge hj (by omega)), ag_ok (show j < 24 by omega)]
      simp only [obs, hc.2 j hj, c_nonterminalsIn hq (show 30 < N by omega), c_leftOf hq, c_bit, jn_, lt_, nI_1]
      unfold stRe
      cases tb x (gp G j).1 <;> rfl
    · rintro x i ⟨rfl, _, rfl⟩
      refine ⟨_, rfl, fun rc => ?_⟩
      simp only [bX7_reachableOnes_25]
      rw [hc.1, if_pos (Int32.le_refl _)]; rfl
  refine roundsI (fRe_up G) (fRe_255 hG) (by unfold sb; decide) ?_ ?_ hN
  · intro rc v j hj
    simp only [bX7_reachableOnes_7]
    rw [if_neg (nleL 1000 1000 hj), if_true]
  · intro rc v j hj
    simp only [bX7_reachableOnes_7]
    rw [if_neg (nleL 1000 1000 hj), if_neg (by decide)]
    simp only [jn_]
    rw [hsw]
    simp only [lt_, nI_1]
    by_cases e : fRe G v = v
    · rw [if_pos e, if_pos e]
    · rw [if_neg e, if_neg e]
end CPR
theorem m_in (x : Int32) {n : Nat} (hn : n < 2 ^ 30) : fX12_in x 0 (nI n - 1) = some (b01 (inI x n)) := by
  simp only [fX12_in, jn_, gz]
  by_cases h : inI x n = true
  · obtain ⟨j, hj, rfl⟩ := inI_of (by omega) h
    have e1 : nI n - 1 = nI (n - 1) := nI_sub1 (by omega)
    rw [h, e1]
    rw [if_neg (nI_pos (by omega)), if_neg (nI_nlt (by omega) (by omega))]
    simp [b01]
  · have h' : inI x n = false := by simpa using h
    rw [h']
    rcases inI_not (by omega) h with h1 | h1
    · rw [if_pos h1]; simp [b01]
    · by_cases h0 : x < 0
      · rw [if_pos h0]; simp [b01]
      · have : nI n - 1 < x := by
          by_cases hz : n = 0
          · subst hz
            have a1 := Int32.le_iff_toInt_le.mp h1
            rw [nI_toInt (by decide)] at a1
            refine Int32.lt_iff_toInt_lt.mpr ?_
            have a2 : (nI 0 - 1).toInt = -1 := by decide
            omega
          · rw [nI_sub1 (by omega)]
            have a1 := Int32.le_iff_toInt_le.mp h1
            rw [nI_toInt (by omega)] at a1
            refine Int32.lt_iff_toInt_lt.mpr ?_
            rw [nI_toInt (by omega)]
            omega
        rw [if_neg h0, if_pos this]; simp [b01]
