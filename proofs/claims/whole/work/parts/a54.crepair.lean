/-! THE CLASS'S repair: covers -/
def IC (tm : Nat → Int32) (len : Int32) (I : List Nat) : Prop := len = nI I.length ∧ I.length ≤ 40 ∧ t8 I ∧ ∀ k, k < I.length → tm k = nI (sy I k)
def WC (cw : Nat → Int32) (wt : Nat → Nat) : Prop := ∀ t, t < 8 → cw t = nI (wt t) ∧ 1 ≤ wt t ∧ wt t ≤ 9
theorem WC_9 {cw : Nat → Int32} {wt : Nat → Nat} (h : WC cw wt) : wt9 wt := fun t ht => (h t ht).2.2
theorem c_tokenAt {tm : Nat → Int32} {len : Int32} {I : List Nat} (h : IC tm len I) {k : Nat} (hk : k < 2 ^ 31) : fX3_tokenAt tm len (nI k) = some (nI (if k < I.length then sy I k else 8)) := by
  have h40 := h.2.1
  simp only [fX3_tokenAt, jn_]
  rw [if_neg (nI_pos hk), h.1]
  by_cases e : k < I.length
  · rw [if_neg (nI_ge e (by omega)), if_pos e, ag_ok (show k < 40 by omega)]
    simp only [obs, h.2.2.2 k e]
  · rw [if_pos (nI_le (by omega) hk), if_neg e]; rfl
def wi (a b s : Nat) : Nat := (a * 9 + b) * 18 + s
theorem wi_lt {a b s : Nat} (ha : a < 9) (hb : b < 9) (hs : s < 18) : wi a b s < 1458 := by unfold wi; omega
theorem wi_inj {a b s a' b' s' : Nat} (hb : b < 9) (hs : s < 18) (hb' : b' < 9) (hs' : s' < 18) (h : wi a b s = wi a' b' s') : a = a' ∧ b = b' ∧ s = s' := by unfold wi at h; omega
theorem c_wordOf (a b s : Nat) : fX5_wordOf (nI a) (nI b) (nI s) = some (nI (wi a b s)) := by
  unfold fX5_wordOf wi
  have e1 : nI a * (9 : Int32) = nI (a * 9) := pk_mul a 9
  have e2 : nI (a * 9 + b) * (18 : Int32) = nI ((a * 9 + b) * 18) := pk_mul (a * 9 + b) 18
  rw [e1, nI_add, e2, nI_add]
section CR
variable {wt : Nat → Nat} {I : List Nat} {tm cw : Nat → Int32} {len : Int32} {K : Int32 × Int64 × Int64}
theorem c_putTerminals (hI : IC tm len I) (hW : WC cw wt) {a b : Nat} (hab : a ≤ b) (hb : b ≤ I.length) (hL : I.length ≤ 8) {c : Nat → Int32} {h l : Nat → Int64} {ω : Nat → Option wW} {v : vW} (R : WO wt K c h l ω) {N : Nat} (hN : 30 < N) : ∃ (o : wsT) (ω' : Nat → Option wW), fX5_putTerminals N tm len cw c h l (nI a) (nI b) = some o ∧ WO wt K o.1 o.2.1 o.2.2 ω' ∧ (∀ t, t < 8 → ω' (wi a b t) = some (sw (sy I) v t a b)) ∧ ∀ x, (∀ t, t < 8 → x ≠ wi a b t) → ω' x = ω x := by
  simp only [fX5_putTerminals, jn3]
  refine vlp4 (B := bX5_putTerminals_2 (nI a) (nI b) tm len cw fun v1 v2 v3 => some (v1, v2, v3)) (fun j i c h l => i = nI j ∧ j ≤ 8 ∧ ∃ ω', WO wt K c h l ω' ∧ (∀ t, t < j → ω' (wi a b t) = some (sw (sy I) v t a b)) ∧ ∀ x, (∀ t, t < j → x ≠ wi a b t) → ω' x = ω x) (fun r => ∃ (o : wsT) (ω' : Nat → Option wW), r = some o ∧ WO wt K o.1 o.2.1 o.2.2 ω' ∧ (∀ t, t < 8 → ω' (wi a b t) = some (sw (sy I) v t a b)) ∧ ∀ x, (∀ t, t < 8 → x ≠ wi a b t) → ω' x = ω x) 8 ?_ ?_ N 0 c h l (by omega) ⟨rfl, by omega, ω, R, fun t ht => absurd ht (Nat.not_lt_zero _), fun _ _ => rfl⟩
  · rintro j i c h l hj ⟨rfl, _, ω1, R1, q1, q2⟩
    left
    have hwi := wi_lt (show a < 9 by omega) (show b < 9 by omega) (show j < 18 by omega)
    obtain ⟨oT, eT, RT⟩ := wo_putTerminal R1 (show wi a b j < 1468 by omega) hj
    obtain ⟨oN, eN, RN⟩ := wo_putNone R1 (show wi a b j < 1468 by omega)
    have hsw : sw (sy I) v j a b = if b = a ∨ (b = a + 1 ∧ sy I a = j) then wT j else wNo := by unfold sw; rw [if_pos (by omega)]
    have fin : ∀ (o : wsT) (y : wW), WO wt K o.1 o.2.1 o.2.2 (updO ω1 (wi a b j) y) → y = sw (sy I) v j a b → (∀ rc, bX5_putTerminals_2 (nI a) (nI b) tm len cw (fun v1 v2 v3 => some (v1, v2, v3)) rc (nI j) c h l = rc (nI (j + 1)) o.1 o.2.1 o.2.2) → ∃ b0 b1 b2 b3, (b0 = nI (j + 1) ∧ j + 1 ≤ 8 ∧ ∃ ω', WO wt K b1 b2 b3 ω' ∧ (∀ t, t < j + 1 → ω' (wi a b t) = some (sw (sy I) v t a b)) ∧ ∀ x, (∀ t, t < j + 1 → x ≠ wi a b t) → ω' x = ω x) ∧ ∀ rc, bX5_putTerminals_2 (nI a) (nI b) tm len cw (fun v1 v2 v3 => some (v1, v2, v3)) rc (nI j) c h l = rc b0 b1 b2 b3 := by
      intro o y Ro hy hrc
      refine ⟨nI (j + 1), o.1, o.2.1, o.2.2, ⟨rfl, by omega, _, Ro, fun t ht => ?_, fun x hx => ?_⟩, hrc⟩
      · by_cases e : t = j
        · subst e; rw [updO_s, hy]
        · rw [updO_n (fun q => e (by have := wi_inj (show b < 9 by omega) (show t < 18 by omega) (show b < 9 by omega) (show j < 18 by omega) q; omega))]
          exact q1 t (by omega)
      · rw [updO_n (hx j (by omega))]
        exact q2 x (fun t ht => hx t (by omega))
    have tk : fX3_tokenAt tm len (nI a) = some (nI (if a < I.length then sy I a else 8)) := c_tokenAt hI (by omega)
    by_cases e1 : b = a
    · refine fin oT _ RT (by rw [hsw, if_pos (Or.inl e1)]) fun rc => ?_
      simp only [bX5_putTerminals_2]
      rw [if_neg (nleL 8 8 hj), c_wordOf]
      simp only [obs, jn3, jn_, lt_]
      rw [if_pos (by rw [e1]), ag_ok hj]
      simp only [obs, (hW j hj).1, eT, bd3, nI_1]
    · by_cases e2 : b = a + 1
      · have hsl : sy I a < 8 := hI.2.2.1 _ (sy_mem (by omega))
        rw [if_pos (show a < I.length by omega)] at tk
        by_cases e3 : sy I a = j
        · refine fin oT _ RT (by rw [hsw, if_pos (Or.inr ⟨e2, e3⟩)]) fun rc => ?_
          simp only [bX5_putTerminals_2]
          rw [if_neg (nleL 8 8 hj), c_wordOf]
          simp only [obs, jn3, jn_, lt_]
          rw [if_neg (by rw [nI_eq (by omega) (by omega)]; exact e1), nI_1, if_pos (by rw [e2]), tk]
          simp only [obs]
          rw [if_pos (by rw [e3]), ag_ok hj]
          simp only [obs, (hW j hj).1, eT, bd3, nI_1]
        · refine fin oN _ RN (by rw [hsw, if_neg (by rintro (q | ⟨_, q⟩); exact e1 q; exact e3 q)]) fun rc => ?_
          simp only [bX5_putTerminals_2]
          rw [if_neg (nleL 8 8 hj), c_wordOf]
          simp only [obs, jn3, jn_, lt_]
          rw [if_neg (by rw [nI_eq (by omega) (by omega)]; exact e1), nI_1, if_pos (by rw [e2]), tk]
          simp only [obs]
          rw [if_neg (by rw [nI_eq (by omega) (by omega)]; exact e3)]
          simp only [eN, bd3, obs, nI_1]
      · refine fin oN _ RN (by rw [hsw, if_neg (by rintro (q | ⟨q, _⟩); exact e1 q; exact e2 q)]) fun rc => ?_
        simp only [bX5_putTerminals_2]
        rw [if_neg (nleL 8 8 hj), c_wordOf]
        simp only [obs, jn3, jn_, lt_]
        rw [if_neg (by rw [nI_eq (by omega) (by omega)]; exact e1), nI_1, if_neg (by rw [nI_eq (by omega) (by omega)]; exact e2)]
        simp only [eN, bd3, obs, nI_1]
  · rintro i c h l ⟨rfl, _, ω1, R1, q1, q2⟩
    refine ⟨_, ⟨(c, h, l), ω1, rfl, R1, q1, q2⟩, fun rc => ?_⟩
    simp only [bX5_putTerminals_2]
    rw [if_pos (by decide)]
theorem c_putNones {a b : Nat} (ha : a < 9) (hb : b < 9) {c : Nat → Int32} {h l : Nat → Int64} {ω : Nat → Option wW} (R : WO wt K c h l ω) {N : Nat} (hN : 30 < N) : ∃ (o : wsT) (ω' : Nat → Option wW), (∀ k46, itr4 (bX5_findWords_8 (nI a) (nI b) k46) N 0 c h l = k46 o.1 o.2.1 o.2.2) ∧ WO wt K o.1 o.2.1 o.2.2 ω' ∧ (∀ n, n < 8 → ω' (wi a b (10 + n)) = some wNo) ∧ ∀ x, (∀ n, n < 8 → x ≠ wi a b (10 + n)) → ω' x = ω x := by
  refine vlq4 (B := fun k46 => bX5_findWords_8 (nI a) (nI b) k46) (fun j i c h l => i = nI j ∧ j ≤ 8 ∧ ∃ ω', WO wt K c h l ω' ∧ (∀ n, n < j → ω' (wi a b (10 + n)) = some wNo) ∧ ∀ x, (∀ n, n < j → x ≠ wi a b (10 + n)) → ω' x = ω x) (fun r => ∃ (o : wsT) (ω' : Nat → Option wW), (∀ k46, r k46 = k46 o.1 o.2.1 o.2.2) ∧ WO wt K o.1 o.2.1 o.2.2 ω' ∧ (∀ n, n < 8 → ω' (wi a b (10 + n)) = some wNo) ∧ ∀ x, (∀ n, n < 8 → x ≠ wi a b (10 + n)) → ω' x = ω x) 8 ?_ ?_ N 0 c h l (by omega) ⟨rfl, by omega, ω, R, fun t ht => absurd ht (Nat.not_lt_zero _), fun _ _ => rfl⟩
  · rintro j i c h l hj ⟨rfl, _, ω1, R1, q1, q2⟩
    left
    have hwi := wi_lt ha hb (show 10 + j < 18 by omega)
    obtain ⟨oN, eN, RN⟩ := wo_putNone R1 (show wi a b (10 + j) < 1468 by omega)
    refine ⟨nI (j + 1), oN.1, oN.2.1, oN.2.2, ⟨rfl, by omega, _, RN, fun n hn => ?_, fun x hx => ?_⟩, fun k46 rc => ?_⟩
    · by_cases e : n = j
      · subst e; exact updO_s
      · rw [updO_n (fun q => e (by have := wi_inj hb (show 10 + n < 18 by omega) hb (show 10 + j < 18 by omega) q; omega))]
        exact q1 n (by omega)
    · rw [updO_n (hx j (by omega))]
      exact q2 x (fun n hn => hx n (by omega))
    · have e10 : (10 : Int32) + nI j = nI (10 + j) := nI_add 10 _
      simp only [bX5_findWords_8]
      rw [if_neg (nleL 8 8 hj), e10, c_wordOf]
      simp only [obs, eN, bd3, lt_, nI_1]
  · rintro i c h l ⟨rfl, _, ω1, R1, q1, q2⟩
    refine ⟨_, ⟨(c, h, l), ω1, fun _ => rfl, R1, q1, q2⟩, fun k46 rc => ?_⟩
    simp only [bX5_findWords_8]
    rw [if_pos (by decide)]
/-- the least over the middles, into BEST -/
theorem c_extendBest (hw : wt9 wt) {s a e lm : Nat} (hs : s < 18) (hae : a ≤ e) (he : e < 9) (hlm : a ≤ lm) (hlm9 : lm < 9) {c : Nat → Int32} {h l : Nat → Int64} {ω : Nat → Option wW} {C : Nat → wW} {S : Nat → wW} (R : WO wt K c h l ω) (hB : ω 1467 = some wNo) (hC : ∀ m, a ≤ m → m ≤ e → ω (1458 + m) = some (C m)) (hS : ∀ m, a ≤ m → m ≤ e → ω (wi m e s) = some (S m)) {N : Nat} (hN : 30 < N) : ∃ (o : wsT), (∀ k20, itr4 (bX5_extendCover_24 (nI s) (nI lm) (nI e) k20) N (nI a) c h l = k20 o.1 o.2.1 o.2.2) ∧ WO wt K o.1 o.2.1 o.2.2 (updO ω 1467 (mnN wt (fun d => catW (C (a + d)) (S (a + d))) (min e lm - a + 1))) := by
  refine vlq4 (B := fun k20 => bX5_extendCover_24 (nI s) (nI lm) (nI e) k20) (fun j i c h l => i = nI (a + j) ∧ j ≤ min e lm - a + 1 ∧ WO wt K c h l (updO ω 1467 (mnN wt (fun d => catW (C (a + d)) (S (a + d))) j))) (fun r => ∃ (o : wsT), (∀ k20, r k20 = k20 o.1 o.2.1 o.2.2) ∧ WO wt K o.1 o.2.1 o.2.2 (updO ω 1467 (mnN wt (fun d => catW (C (a + d)) (S (a + d))) (min e lm - a + 1)))) (min e lm - a + 1) ?_ ?_ N (nI a) c h l (by omega) ⟨rfl, Nat.zero_le _, by
    show WO wt K c h l (updO ω 1467 wNo)
    rw [updO_same hB]; exact R⟩
  · rintro j i c h l hj ⟨rfl, _, R1⟩
    left
    have hj1 : a + j ≤ e := by omega
    have hj2 : a + j ≤ lm := by omega
    have hwi := wi_lt (show a + j < 9 by omega) he hs
    obtain ⟨o, eo, Ro⟩ := wo_lowerToJoined hw R1 (show 1467 < 1468 by decide) (show 1458 + (a + j) < 1468 by omega) (show wi (a + j) e s < 1468 by omega) updO_s (by rw [updO_n (by omega)]; exact hC _ (by omega) hj1) (by rw [updO_n (by omega)]; exact hS _ (by omega) hj1)
    have e2 : ∀ x y : wW, updO (updO ω 1467 x) 1467 y = updO ω 1467 y := by
      intro x y
      funext i
      by_cases q : i = 1467
      · subst q; rw [updO_s, updO_s]
      · rw [updO_n q, updO_n q, updO_n q]
    rw [e2] at Ro
    refine ⟨nI (a + (j + 1)), o.1, o.2.1, o.2.2, ⟨rfl, by omega, Ro⟩, fun k20 rc => ?_⟩
    have e58 : (1458 : Int32) + nI (a + j) = nI (1458 + (a + j)) := nI_add 1458 _
    have z67 : (nI 1467 : Int32) = 1467 := rfl
    rw [z67] at eo
    simp only [bX5_extendCover_24]
    rw [if_neg (nI_nlt hj1 (by omega)), if_neg (nI_nlt hj2 (by omega)), c_wordOf]
    simp only [obs, e58, eo, bd3, lt_, nI_1]
    rfl
  · rintro i c h l ⟨rfl, _, R1⟩
    refine ⟨_, ⟨(c, h, l), fun _ => rfl, R1⟩, fun k20 rc => ?_⟩
    simp only [bX5_extendCover_24]
    by_cases q : e < a + (min e lm - a + 1)
    · rw [if_pos (nI_lt q (by omega))]
    · rw [if_neg (nI_nlt (by omega) (by omega)), if_pos (nI_lt (by omega) (by omega))]
/-- a symbol more -/
theorem c_extendCover (hw : wt9 wt) {s a b lm fe : Nat} (hs : s < 18) (hab : a ≤ b) (hb : b < 9) (hlm : a ≤ lm) (hlm9 : lm < 9) (hfe : a ≤ fe) (hfe2 : fe ≤ b) {c : Nat → Int32} {h l : Nat → Int64} {ω : Nat → Option wW} {C : Nat → wW} {S : Nat → Nat → wW} (R : WO wt K c h l ω) (hC : ∀ m, a ≤ m → m ≤ b → ω (1458 + m) = some (C m)) (hS : ∀ m e, a ≤ m → m ≤ e → e ≤ b → ω (wi m e s) = some (S m e)) {N : Nat} (hN : 30 < N) : ∃ (o : wsT) (ω' : Nat → Option wW), fX5_extendCover N c h l (nI s) (nI a) (nI lm) (nI fe) (nI b) = some o ∧ WO wt K o.1 o.2.1 o.2.2 ω' ∧ (∀ x, x < 1458 → ω' x = ω x) ∧ ∀ e, fe ≤ e → e ≤ b → ω' (1458 + e) = some (mnN wt (fun d => catW (C (a + d)) (S (a + d) e)) (min e lm - a + 1)) := by
  simp only [fX5_extendCover, jn3]
  refine vlp4 (B := bX5_extendCover_4 N (nI s) (nI a) (nI lm) (nI fe) fun v1 v2 v3 => some (v1, v2, v3)) (fun j i c h l => i = nI (b + 1 - j) - 1 ∧ j ≤ b + 1 - fe ∧ ∃ ω', WO wt K c h l ω' ∧ (∀ x, x < 1458 → ω' x = ω x) ∧ (∀ e, e < b + 1 - j → a ≤ e → ω' (1458 + e) = some (C e)) ∧ ∀ e, b + 1 - j ≤ e → e ≤ b → ω' (1458 + e) = some (mnN wt (fun d => catW (C (a + d)) (S (a + d) e)) (min e lm - a + 1))) (fun r => ∃ (o : wsT) (ω' : Nat → Option wW), r = some o ∧ WO wt K o.1 o.2.1 o.2.2 ω' ∧ (∀ x, x < 1458 → ω' x = ω x) ∧ ∀ e, fe ≤ e → e ≤ b → ω' (1458 + e) = some (mnN wt (fun d => catW (C (a + d)) (S (a + d) e)) (min e lm - a + 1))) (b + 1 - fe) ?_ ?_ N (nI b) c h l (by omega) ⟨?_, Nat.zero_le _, ω, R, fun _ _ => rfl, fun e h1 h2 => hC e h2 (by omega), fun e h1 h2 => by omega⟩
  · rintro j i c h l hj ⟨rfl, _, ω1, R1, q1, q2, q3⟩
    left
    have e1 : nI (b + 1 - j) - 1 = nI (b - j) := by rw [nI_sub1 (by omega)]; congr 1; omega
    have e2 : b + 1 - (j + 1) = b - j := by omega
    rw [e1, e2]
    have hx1 : fe ≤ b - j := by omega
    generalize hxe : b - j = x at *
    obtain ⟨o1, f1, R2⟩ := wo_putNone R1 (show 1467 < 1468 by decide)
    obtain ⟨o2, f2, R3⟩ := c_extendBest hw hs (show a ≤ x by omega) (show x < 9 by omega) hlm hlm9 (C := C) (S := fun m => S m x) R2 updO_s (fun m h1 h2 => by rw [updO_n (by omega)]; exact q2 m (by omega) h1) (fun m h1 h2 => by
      have := wi_lt (show m < 9 by omega) (show x < 9 by omega) hs
      rw [updO_n (by omega), q1 _ (by omega)]; exact hS m x h1 h2 (by omega)) hN
    obtain ⟨o3, f3, R4⟩ := wo_putCopy R3 (show 1458 + x < 1468 by omega) (show 1467 < 1468 by decide) updO_s
    refine ⟨nI x - 1, o3.1, o3.2.1, o3.2.2, ⟨rfl, by omega, _, R4, fun y hy => ?_, fun e h1 h2 => ?_, fun e h1 h2 => ?_⟩, fun rc => ?_⟩
    · rw [updO_n (by omega), updO_n (by omega), updO_n (by omega)]; exact q1 y hy
    · rw [updO_n (by omega), updO_n (by omega), updO_n (by omega)]; exact q2 e (by omega) h2
    · by_cases ee : e = x
      · subst ee; rw [updO_s]
      · rw [updO_n (by omega), updO_n (by omega), updO_n (by omega)]; exact q3 e (by omega) h2
    · have e58 : (1458 : Int32) + nI x = nI (1458 + x) := nI_add 1458 _
      have z67 : (nI 1467 : Int32) = 1467 := rfl
      rw [z67] at f1 f3
      simp only [bX5_extendCover_4]
      rw [if_neg (nI_nlt hx1 (by omega)), f1]
      simp only [bd3, obs, jn3]
      rw [f2]
      simp only [e58, f3, obs, lt_]
      rw [nIm1]
  · rintro i c h l ⟨rfl, _, ω1, R1, q1, q2, q3⟩
    refine ⟨_, ⟨(c, h, l), ω1, rfl, R1, q1, fun e h1 h2 => q3 e (by omega) h2⟩, fun rc => ?_⟩
    simp only [bX5_extendCover_4]
    have e1 : b + 1 - (b + 1 - fe) = fe := by omega
    rw [e1]
    by_cases h0 : fe = 0
    · subst h0
      rw [if_pos (by decide)]
    · rw [nI_sub1 (by omega), if_pos (nI_lt (by omega) (by omega))]
  · rw [Nat.sub_zero, nI_sub1 (by omega)]; rfl
end CR
