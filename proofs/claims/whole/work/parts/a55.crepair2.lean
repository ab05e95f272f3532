/-! THE CLASS'S repair: a production over a stretch; all stretches -/
theorem mnN_one {wt : Nat → Nat} (hw : wt9 wt) {f : Nat → wW} : ∀ n, (∀ d, 1 ≤ d → d ≤ n → f d = wNo) → mnN wt f (n + 1) = mnN wt f 1
  | 0, _ => rfl
  | n + 1, h => by
    have ih := mnN_one hw (f := f) n (fun d h1 h2 => h d h1 (by omega))
    show minW wt (mnN wt f (n + 1)) (f (n + 1)) = _
    rw [h (n + 1) (by omega) (Nat.le_refl _), minW_no_r hw, ih]
def RW (I : List Nat) (ω : Nat → Option wW) (v : vW) (S : Nat → Nat → Prop) : Prop := ∀ m e, S m e → m < 9 ∧ e < 9 ∧ ∀ s, okS s → ω (wi m e s) = some (sw (sy I) v s m e)
theorem RW_upd {I : List Nat} {ω : Nat → Option wW} {v : vW} {S : Nat → Nat → Prop} (h : RW I ω v S) {l a b : Nat} (hl : l < 8) (ha : a < 9) (hb : b < 9) (y : wW) : RW I (updO ω (wi a b (10 + l)) y) (updW v (rs l a b) y) S := by
  intro m e hme
  obtain ⟨hm, he, hh⟩ := h m e hme
  refine ⟨hm, he, fun s hs => ?_⟩
  have h18 := okS_lt hs
  have := hh s hs
  unfold sw at this ⊢
  by_cases h10 : s < 10
  · rw [if_pos h10] at this ⊢
    rw [updO_n (fun q => by have := wi_inj he h18 hb (show 10 + l < 18 by omega) q; omega)]; exact this
  · rw [if_neg h10] at this ⊢
    by_cases q : wi m e s = wi a b (10 + l)
    · obtain ⟨q1, q2, q3⟩ := wi_inj he h18 hb (show 10 + l < 18 by omega) q
      have : rs (s - 10) m e = rs l a b := by rw [q1, q2]; congr 1; omega
      rw [q, this, updO_s, updW_s]
    · rw [updO_n q, updW_n (fun q' => q (by
        have := rs_inj hm he ha hb q'
        rw [this.2.1, this.2.2]; congr 1; omega))]
      exact this
theorem RW_fr {I : List Nat} {ω ω' : Nat → Option wW} {v : vW} {S : Nat → Nat → Prop} (h : RW I ω v S) (hf : ∀ x, x < 1458 → ω' x = ω x) : RW I ω' v S := fun m e hme => by
  obtain ⟨hm, he, hh⟩ := h m e hme
  exact ⟨hm, he, fun s hs => by rw [hf _ (wi_lt hm he (okS_lt hs))]; exact hh s hs⟩
section CR2
variable {wt : Nat → Nat} {I : List Nat} {K : Int32 × Int64 × Int64}
theorem c_coverNones {a b : Nat} (hab : a ≤ b) (hb : b < 9) {c : Nat → Int32} {h l : Nat → Int64} {ω : Nat → Option wW} (R : WO wt K c h l ω) {N : Nat} (hN : 30 < N) : ∃ (o : wsT) (ω' : Nat → Option wW), (∀ k36, itr4 (bX5_lowerBy_3 (nI b) k36) N (nI a) c h l = k36 o.1 o.2.1 o.2.2) ∧ WO wt K o.1 o.2.1 o.2.2 ω' ∧ (∀ m, a ≤ m → m ≤ b → ω' (1458 + m) = some wNo) ∧ ∀ x, x < 1458 → ω' x = ω x := by
  refine vlq4 (B := fun k36 => bX5_lowerBy_3 (nI b) k36) (fun j i c h l => i = nI (a + j) ∧ j ≤ b + 1 - a ∧ ∃ ω', WO wt K c h l ω' ∧ (∀ m, a ≤ m → m < a + j → ω' (1458 + m) = some wNo) ∧ ∀ x, x < 1458 → ω' x = ω x) (fun r => ∃ (o : wsT) (ω' : Nat → Option wW), (∀ k36, r k36 = k36 o.1 o.2.1 o.2.2) ∧ WO wt K o.1 o.2.1 o.2.2 ω' ∧ (∀ m, a ≤ m → m ≤ b → ω' (1458 + m) = some wNo) ∧ ∀ x, x < 1458 → ω' x = ω x) (b + 1 - a) ?_ ?_ N (nI a) c h l (by omega) ⟨rfl, Nat.zero_le _, ω, R, fun m h1 h2 => by omega, fun _ _ => rfl⟩
  · rintro j i c h l hj ⟨rfl, _, ω1, R1, q1, q2⟩
    left
    obtain ⟨o, e, R2⟩ := wo_putNone R1 (show 1458 + (a + j) < 1468 by omega)
    refine ⟨nI (a + (j + 1)), o.1, o.2.1, o.2.2, ⟨rfl, by omega, _, R2, fun m h1 h2 => ?_, fun x hx => ?_⟩, fun k36 rc => ?_⟩
    · by_cases q : m = a + j
      · subst q; exact updO_s
      · rw [updO_n (by omega)]; exact q1 m h1 (by omega)
    · rw [updO_n (by omega)]; exact q2 x hx
    · have e58 : (1458 : Int32) + nI (a + j) = nI (1458 + (a + j)) := nI_add 1458 _
      simp only [bX5_lowerBy_3]
      rw [if_neg (nI_nlt (by omega) (by omega)), e58, e]
      simp only [bd3, obs, lt_, nI_1]
      rfl
  · rintro i c h l ⟨rfl, _, ω1, R1, q1, q2⟩
    refine ⟨_, ⟨(c, h, l), ω1, fun _ => rfl, R1, fun m h1 h2 => q1 m h1 (by omega), q2⟩, fun k36 rc => ?_⟩
    simp only [bX5_lowerBy_3]
    rw [if_pos (nI_lt (by omega) (by omega))]
theorem c_coverAll (hw : wt9 wt) {q : gP} (hq : okP q) {a b : Nat} (hab : a ≤ b) (hb : b < 9) {c : Nat → Int32} {h l : Nat → Int64} {ω : Nat → Option wW} {v : vW} (R : WO wt K c h l ω) (hS : ∀ s, okS s → ∀ m e, a ≤ m → m ≤ e → e ≤ b → ω (wi m e s) = some (sw (sy I) v s m e)) (hC : ∀ m, a ≤ m → m ≤ b → ω (1458 + m) = some (cov wt (sy I) v a q.2 0 m)) {N : Nat} (hN : 30 < N) : ∃ (o : wsT) (ω' : Nat → Option wW), (∀ k18, itr4 (bX5_lowerBy_51 N (nI (enc q)) (nI a) (nI b) (nI q.2.length - 1) k18) N 0 c h l = k18 o.1 o.2.1 o.2.2) ∧ WO wt K o.1 o.2.1 o.2.2 ω' ∧ (∀ x, x < 1458 → ω' x = ω x) ∧ ω' (1458 + b) = some (cov wt (sy I) v a q.2 q.2.length b) := by
  have h5 := hq.2.1
  refine vlq4 (B := fun k18 => bX5_lowerBy_51 N (nI (enc q)) (nI a) (nI b) (nI q.2.length - 1) k18) (fun j i c h l => i = nI j ∧ j ≤ q.2.length ∧ ∃ ω', WO wt K c h l ω' ∧ (∀ x, x < 1458 → ω' x = ω x) ∧ ∀ m, a ≤ m → m ≤ b → (j < q.2.length ∨ m = b) → ω' (1458 + m) = some (cov wt (sy I) v a q.2 j m)) (fun r => ∃ (o : wsT) (ω' : Nat → Option wW), (∀ k18, r k18 = k18 o.1 o.2.1 o.2.2) ∧ WO wt K o.1 o.2.1 o.2.2 ω' ∧ (∀ x, x < 1458 → ω' x = ω x) ∧ ω' (1458 + b) = some (cov wt (sy I) v a q.2 q.2.length b)) q.2.length ?_ ?_ N 0 c h l (by omega) ⟨rfl, Nat.zero_le _, ω, R, fun _ _ => rfl, fun m h1 h2 _ => hC m h1 h2⟩
  · rintro j i c h l hj ⟨rfl, _, ω1, R1, q1, q2⟩
    left
    have hs := okP_sy hq hj
    have hs18 := okS_lt hs
    obtain ⟨o, ω2, e, R2, f1, f2⟩ := c_extendCover hw hs18 hab hb (lm := if j = 0 then a else b) (fe := if j + 1 = q.2.length then b else a) (by split <;> omega) (by split <;> omega) (by split <;> omega) (by split <;> omega) (C := cov wt (sy I) v a q.2 j) (S := fun m e => sw (sy I) v (sy q.2 j) m e) R1 (fun m h1 h2 => q2 m h1 h2 (Or.inl hj)) (fun m e h1 h2 h3 => by
      rw [q1 _ (wi_lt (by omega) (by omega) hs18)]; exact hS _ hs m e h1 h2 h3) hN
    refine ⟨nI (j + 1), o.1, o.2.1, o.2.2, ⟨rfl, by omega, ω2, R2, fun x hx => by rw [f1 x hx, q1 x hx], fun m h1 h2 h3 => ?_⟩, fun k18 rc => ?_⟩
    · rw [f2 m (by split <;> omega) h2]
      refine congrArg some ?_
      by_cases j0 : j = 0
      · rw [if_pos j0]
        have e1 : min m a - a + 1 = 1 := by omega
        rw [e1]
        show _ = mnN wt (fun d => catW (cov wt (sy I) v a q.2 j (a + d)) (sw (sy I) v (sy q.2 j) (a + d) m)) (m - a + 1)
        rw [mnN_one hw (m - a)]
        intro d h1 h2
        have : cov wt (sy I) v a q.2 j (a + d) = wNo := by
          rw [j0]
          show (if a + d = a then wEm else wNo) = wNo
          rw [if_neg (by omega)]
        rw [this, catW_no_l]
      · rw [if_neg j0]
        have e1 : min m b - a + 1 = m - a + 1 := by omega
        rw [e1]; rfl
    · have hb1 : ¬ nI q.2.length - 1 < nI j := by rw [nI_sub1 (by omega)]; exact nI_nlt (by omega) (by omega)
      simp only [bX5_lowerBy_51]
      rw [if_neg hb1, c_symbolOf hq hj]
      simp only [obs, jn_]
      have key : ∀ x y : Int32, x = nI (if j = 0 then a else b) → y = nI (if j + 1 = q.2.length then b else a) → (bd3 (fX5_extendCover N c h l (nI (sy q.2 j)) (nI a) x y (nI b)) fun o27 o28 o29 => lt_ (nI j + 1) fun x30 => rc x30 o27 o28 o29) = rc (nI (j + 1)) o.1 o.2.1 o.2.2 := by
        intro x y hx hy
        rw [hx, hy, e]
        simp only [bd3, obs, lt_, nI_1]
      have hlast : (nI j = nI q.2.length - 1) ↔ j + 1 = q.2.length := by
        rw [nI_sub1 (by omega), nI_eq (by omega) (by omega)]; omega
      have hfirst : (nI j = 0) ↔ j = 0 := by rw [n0, nI_eq (by omega) (by omega)]
      by_cases j0 : j = 0
      · rw [if_pos (hfirst.mpr j0)]
        by_cases j1 : j + 1 = q.2.length
        · rw [if_pos (hlast.mpr j1)]; exact key _ _ (by rw [if_pos j0]) (by rw [if_pos j1])
        · rw [if_neg (fun z => j1 (hlast.mp z))]; exact key _ _ (by rw [if_pos j0]) (by rw [if_neg j1])
      · rw [if_neg (fun z => j0 (hfirst.mp z))]
        by_cases j1 : j + 1 = q.2.length
        · rw [if_pos (hlast.mpr j1)]; exact key _ _ (by rw [if_neg j0]) (by rw [if_pos j1])
        · rw [if_neg (fun z => j1 (hlast.mp z))]; exact key _ _ (by rw [if_neg j0]) (by rw [if_neg j1])
  · rintro i c h l ⟨rfl, _, ω1, R1, q1, q2⟩
    refine ⟨_, ⟨(c, h, l), ω1, fun _ => rfl, R1, q1, q2 b hab (Nat.le_refl _) (Or.inr rfl)⟩, fun k18 rc => ?_⟩
    simp only [bX5_lowerBy_51]
    have hb1 : nI q.2.length - 1 < nI q.2.length := by
      by_cases h0 : q.2.length = 0
      · rw [h0]; decide
      · rw [nI_sub1 (by omega)]; exact nI_lt (by omega) (by omega)
    rw [if_pos hb1]
theorem c_lowerBy (hw : wt9 wt) {q : gP} (hq : okP q) {a b : Nat} (hab : a ≤ b) (hb : b < 9) {c : Nat → Int32} {h l : Nat → Int64} {ω : Nat → Option wW} {v : vW} (R : WO wt K c h l ω) (hS : ∀ s, okS s → ∀ m e, a ≤ m → m ≤ e → e ≤ b → ω (wi m e s) = some (sw (sy I) v s m e)) {N : Nat} (hN : 30 < N) : ∃ (o : wsT) (ω' : Nat → Option wW), fX5_lowerBy N c h l (nI (enc q)) (nI a) (nI b) = some (b01 (decide (ky wt (cov wt (sy I) v a q.2 q.2.length b) < ky wt (v (rs q.1 a b)))), o) ∧ WO wt K o.1 o.2.1 o.2.2 ω' ∧ ∀ x, x < 1458 → ω' x = updO ω (wi a b (10 + q.1)) (minW wt (v (rs q.1 a b)) (cov wt (sy I) v a q.2 q.2.length b)) x := by
  have h8 := hq.1
  have hwi := wi_lt (show a < 9 by omega) hb (show 10 + q.1 < 18 by omega)
  obtain ⟨o1, ω1, e1, R1, f1, f2⟩ := c_coverNones hab hb R hN
  obtain ⟨o2, e2, R2⟩ := wo_putEmpty R1 (show 1458 + a < 1468 by omega)
  obtain ⟨o3, ω3, e3, R3, g1, g2⟩ := c_coverAll hw hq hab hb (I := I) (v := v) R2 (fun s hs m e h1 h2 h3 => by
    have := wi_lt (show m < 9 by omega) (show e < 9 by omega) (okS_lt hs)
    rw [updO_n (by omega), f2 _ this]; exact hS s hs m e h1 h2 h3) (fun m h1 h2 => by
    show _ = some (if m = a then wEm else wNo)
    by_cases ea : m = a
    · subst ea; rw [updO_s, if_pos rfl]
    · rw [updO_n (by omega), if_neg ea]; exact f1 m h1 h2) hN
  have v1 : ω3 (wi a b (10 + q.1)) = some (v (rs q.1 a b)) := by
    rw [g1 _ hwi, updO_n (by omega), f2 _ hwi, hS (10 + q.1) (Or.inr ⟨by omega, by omega⟩) a b (Nat.le_refl _) hab (Nat.le_refl _)]
    unfold sw
    rw [if_neg (by omega)]
    congr 3; omega
  obtain ⟨o4, e4, R4⟩ := wo_lower hw R3 (show wi a b (10 + q.1) < 1468 by omega) (show 1458 + b < 1468 by omega) v1 g2
  generalize decide (ky wt (cov wt (sy I) v a q.2 q.2.length b) < ky wt (v (rs q.1 a b))) = d at *
  refine ⟨o4, _, ?_, R4, fun x hx => ?_⟩
  · have e58 : (1458 : Int32) + nI a = nI (1458 + a) := nI_add 1458 _
    have e58b : (1458 : Int32) + nI b = nI (1458 + b) := nI_add 1458 _
    have e10 : (10 : Int32) + nI q.1 = nI (10 + q.1) := nI_add 10 _
    simp only [fX5_lowerBy, jn3]
    rw [e1, e58, e2]
    simp only [bd3, obs, c_lengthOf hq, lt_]
    rw [e3]
    simp only [c_leftOf hq, obs, e10, c_wordOf, e58b, e4, bd4]
    unfold gz
    rw [if_pos (b01_01 _)]
  · by_cases ex : x = wi a b (10 + q.1)
    · subst ex; rw [updO_s, updO_s]
    · rw [updO_n ex, updO_n ex, g1 x hx, updO_n (by omega), f2 x hx]
end CR2
