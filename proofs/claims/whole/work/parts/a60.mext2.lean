/-! THE REFERENCE'S extends1: a symbol behind a part, to every place -/
section MX2
variable {rules : Int32} {lefts sizes rights : Nat → Int32} {G : List gP} {wt : Nat → Nat} {cw tm : Nat → Int32} {len : Int32} {I : List Nat}
theorem sw_none {B : vW} {s fr to : Nat} (h10 : s < 10) (h : ¬ (to = fr ∨ (to = fr + 1 ∧ sy I fr = s))) : sw (sy I) B s fr to = wNo := by
  unfold sw
  rw [if_pos h10, if_neg h]
theorem m_extends1 (hM : RM rules lefts sizes rights G) (hG : okG G) (hI : IC tm len I) (hL : I.length ≤ 8) (hW : WC cw wt) {p i fr : Nat} (hp : p < G.length) (hi : i < (gp G p).2.length) (hfr : fr ≤ I.length) {bests bl trial partly pl : Nat → Int32} {tl : Int32} {P B : vW} (hS : SV partly pl P 0 54) (hB : SV bests bl B 0 648) {N : Nat} (hN : 50 < N) : ∃ pt' pl' tr' tl' P', fX12_extends1 N rights trial tl tm len cw bests bl partly pl (nI p) (nI i) (nI fr) = some (tr', tl', pt', pl') ∧ SV pt' pl' P' 0 54 ∧ (∀ b, fr ≤ b → b ≤ I.length → P' (9 * (i + 1) + b) = minW wt (P (9 * (i + 1) + b)) (catW (P (9 * i + fr)) (sw (sy I) B (sy (gp G p).2 i) fr b))) ∧ ∀ s, (∀ b, fr ≤ b → b ≤ I.length → s ≠ 9 * (i + 1) + b) → P' s = P s := by
  have hw := WC_9 hW
  have hq := okG_gp hG hp
  have h5 := hq.2.1
  have hs := okP_sy hq hi
  have h18 := okS_lt hs
  have e9 : (9 : Int32) * nI i = nI (9 * i) := pk_mul 9 i
  have hs0 := hS (9 * i + fr) (Nat.zero_le _) (by omega)
  simp only [fX12_extends1, e9, nI_add, lt_, ag_ok (show 9 * i + fr < 54 by omega), obs]
  cases hP : (P (9 * i + fr)).1 with
  | none =>
    have hpl : pl (9 * i + fr) = -1 := by rw [hs0.1, hP]; rfl
    rw [hpl, if_neg (by decide)]
    refine ⟨partly, pl, trial, tl, P, rfl, hS, fun b _ _ => ?_, fun _ _ => rfl⟩
    have : P (9 * i + fr) = wNo := Subtype.ext hP
    rw [this, catW_no_l, minW_no_r hw]
  | some t0 =>
    have hok0 := (P (9 * i + fr)).2
    rw [hP] at hok0
    have h40 := ok40 hok0
    have hpl : pl (9 * i + fr) = nI t0.length := by rw [hs0.1, hP]; rfl
    rw [hpl, if_pos (nI_pos' (by omega)), m_symbol hM hG hp hi]
    simp only [obs, jn4]
    generalize hse : sy (gp G p).2 i = s at *
    refine vlp5 (B := bX12_extends1_30 N (nI i) (nI fr) tm len cw bests bl (nI (9 * i + fr)) (nI s) (fun v4 v5 v6 v7 => some (v4, v5, v6, v7)) fun v9 v10 v11 v12 => some (v9, v10, v11, v12)) (fun j ix tr tl pt pl => ix = nI (fr + j) ∧ j ≤ I.length + 1 - fr ∧ ∃ P', SV pt pl P' 0 54 ∧ (∀ b, fr ≤ b → b < fr + j → P' (9 * (i + 1) + b) = minW wt (P (9 * (i + 1) + b)) (catW (P (9 * i + fr)) (sw (sy I) B s fr b))) ∧ ∀ s, (∀ b, fr ≤ b → b < fr + j → s ≠ 9 * (i + 1) + b) → P' s = P s) (fun r => ∃ pt' pl' tr' tl' P', r = some (tr', tl', pt', pl') ∧ SV pt' pl' P' 0 54 ∧ (∀ b, fr ≤ b → b ≤ I.length → P' (9 * (i + 1) + b) = minW wt (P (9 * (i + 1) + b)) (catW (P (9 * i + fr)) (sw (sy I) B s fr b))) ∧ ∀ s, (∀ b, fr ≤ b → b ≤ I.length → s ≠ 9 * (i + 1) + b) → P' s = P s) (I.length + 1 - fr) ?_ ?_ N (nI fr) trial tl partly pl (by omega) ⟨rfl, Nat.zero_le _, P, hS, fun b h1 h2 => by omega, fun _ _ => rfl⟩
    · rintro j ix tr tl pt pl2 hj ⟨rfl, _, P1, S1, a1, a2⟩
      have hto : fr + j ≤ I.length := by omega
      have hrow : P1 (9 * i + fr) = P (9 * i + fr) := a2 _ (fun b h1 h2 => by omega)
      have hP1 : (P1 (9 * i + fr)).1 = some t0 := by rw [hrow]; exact hP
      have hnew : P1 (9 * (i + 1) + (fr + j)) = P (9 * (i + 1) + (fr + j)) := a2 _ (fun b h1 h2 => by omega)
      -- three ways: do, skip, stop
      have goDo : (s < 10 → (fr + j = fr ∨ (fr + j = fr + 1 ∧ sy I fr = s))) → (¬ s < 10 → (B (rs (s - 10) fr (fr + j))).1 ≠ none) → (∃ b0 b1 b2 b3 b4, (b0 = nI (fr + (j + 1)) ∧ j + 1 ≤ I.length + 1 - fr ∧ ∃ P', SV b3 b4 P' 0 54 ∧ (∀ b, fr ≤ b → b < fr + (j + 1) → P' (9 * (i + 1) + b) = minW wt (P (9 * (i + 1) + b)) (catW (P (9 * i + fr)) (sw (sy I) B s fr b))) ∧ ∀ s, (∀ b, fr ≤ b → b < fr + (j + 1) → s ≠ 9 * (i + 1) + b) → P' s = P s) ∧ ∀ rc : Int32 → (Nat → Int32) → Int32 → (Nat → Int32) → (Nat → Int32) → Option ((Nat → Int32) × Int32 × (Nat → Int32) × (Nat → Int32)), ((fX12_tries tl).bind fun o29 => (ag pl2 54 (nI (9 * i + fr))).bind fun x30 => bd2 (fX12_copies_partly N tr o29 pt ((40 : Int32) * nI (9 * i + fr)) x30) fun o31 o32 => if 10 ≤ nI s then ((ag bl 648 (nI (rs (s - 10) fr (fr + j)))).bind fun x38 => bd2 (fX12_copies_bests N o31 o32 bests ((40 : Int32) * nI (rs (s - 10) fr (fr + j))) x38) fun o39 o40 => bd2 (fX12_reaches N o39 o40 cw pt pl2 (nI i + (1 : Int32)) (nI (fr + j))) fun o35 o36 => rc (nI (fr + j) + 1) o39 o40 o35 o36) else (bd2 (fX12_adds o31 o32 (nI s)) fun o41 o42 => bd2 (fX12_reaches N o41 o42 cw pt pl2 (nI i + (1 : Int32)) (nI (fr + j))) fun o35 o36 => rc (nI (fr + j) + 1) o41 o42 o35 o36)) = rc b0 b1 b2 b3 b4) := by
        intro hc1 hc2
        obtain ⟨pt', pl', tr', tl', hS', hrun⟩ := m_extReach hW (trial := tr) (tl := tl) (inp := tm) (Ln := len) hs S1 (show i < 5 by omega) (show fr < 9 by omega) (show fr + j < 9 by omega) hP1 hB (I := I) hc1 hc2 hN
        refine ⟨nI (fr + (j + 1)), tr', tl', pt', pl', ⟨rfl, by omega, _, hS', fun b h1 h2 => ?_, fun x hx => ?_⟩, fun rc => ?_⟩
        · by_cases eb : b = fr + j
          · subst eb; rw [updW_s, hnew, hrow]
          · rw [updW_n (by omega)]; exact a1 b h1 (by omega)
        · rw [updW_n (hx (fr + j) (by omega) (by omega))]
          exact a2 x (fun b h1 h2 => hx b h1 (by omega))
        · have := hrun _ (fun v22 v23 v24 v25 => rc (nI (fr + j) + 1) v22 v23 v24 v25)
          rw [this, nI_1]; rfl
      have hskip : sw (sy I) B s fr (fr + j) = wNo → (nI (fr + (j + 1)) = nI (fr + (j + 1)) ∧ j + 1 ≤ I.length + 1 - fr ∧ ∃ P', SV pt pl2 P' 0 54 ∧ (∀ b, fr ≤ b → b < fr + (j + 1) → P' (9 * (i + 1) + b) = minW wt (P (9 * (i + 1) + b)) (catW (P (9 * i + fr)) (sw (sy I) B s fr b))) ∧ ∀ s, (∀ b, fr ≤ b → b < fr + (j + 1) → s ≠ 9 * (i + 1) + b) → P' s = P s) := by
        intro h0
        refine ⟨rfl, by omega, P1, S1, fun b h1 h2 => ?_, fun x hx => a2 x (fun b h1 h2 => hx b h1 (by omega))⟩
        by_cases eb : b = fr + j
        · subst eb; rw [hnew, h0, catW_no_r, minW_no_r hw]
        · exact a1 b h1 (by omega)
      have hstop : (∀ b, fr + j ≤ b → b ≤ I.length → sw (sy I) B s fr b = wNo) → ∃ pt' pl' tr' tl' P', (some (tr, tl, pt, pl2) : Option ((Nat → Int32) × Int32 × (Nat → Int32) × (Nat → Int32))) = some (tr', tl', pt', pl') ∧ SV pt' pl' P' 0 54 ∧ (∀ b, fr ≤ b → b ≤ I.length → P' (9 * (i + 1) + b) = minW wt (P (9 * (i + 1) + b)) (catW (P (9 * i + fr)) (sw (sy I) B s fr b))) ∧ ∀ s, (∀ b, fr ≤ b → b ≤ I.length → s ≠ 9 * (i + 1) + b) → P' s = P s := by
        intro h0
        refine ⟨pt, pl2, tr, tl, P1, rfl, S1, fun b h1 h2 => ?_, fun x hx => a2 x (fun b h1 h2 => hx b h1 (by omega))⟩
        by_cases hb : b < fr + j
        · exact a1 b h1 hb
        · rw [h0 b (by omega) h2, catW_no_r, minW_no_r hw]
          exact a2 _ (fun b' h1 h2 => by omega)
      have hnl : ¬ len < nI (fr + j) := by rw [hI.1]; exact nI_nlt hto (by omega)
      by_cases h10 : s < 10
      · have h8 : s < 8 := by rcases hs with q | q <;> omega
        have n10 : ¬ 10 ≤ nI s := nle10 h10
        have l10 : nI s < 10 := lt10 h10
        by_cases hj0 : fr + j ≤ fr + 1 ∧ (fr + j = fr + 1 → sy I fr = s)
        · left
          obtain ⟨b0, b1, b2, b3, b4, hb, hrun⟩ := goDo (fun _ => by omega) (fun z => absurd h10 z)
          refine ⟨b0, b1, b2, b3, b4, hb, fun rc => ?_⟩
          rw [← hrun rc]
          simp only [bX12_extends1_30, jn_, jn4, jn2, lt_]
          rw [if_neg hnl, if_neg n10, nI_1, if_neg (nI_nlt hj0.1 (by omega))]
          by_cases hj1 : fr + j = fr + 1
          · rw [if_pos (by rw [hj1]), ag_ok (show fr < 40 by omega)]
            simp only [obs, hI.2.2.2 fr (by omega), hj0.2 hj1]
            rw [if_pos trivial, if_neg n10, if_pos l10]
            simp only [if_neg n10]
          · rw [if_neg (by rw [nI_eq (by omega) (by omega)]; exact hj1), if_neg n10, if_pos l10]
            simp only [if_neg n10]
        · right
          refine ⟨_, hstop (fun b h1 h2 => sw_none h10 (by omega)), fun rc => ?_⟩
          simp only [bX12_extends1_30, jn_, jn4, jn2, lt_]
          rw [if_neg hnl, if_neg n10, nI_1]
          by_cases hj1 : fr + j = fr + 1
          · have hne : ¬ sy I fr = s := fun z => hj0 ⟨by omega, fun _ => z⟩
            have h8i : sy I fr < 8 := hI.2.2.1 _ (sy_mem (by omega))
            rw [if_neg (nI_nlt (by omega) (by omega)), if_pos (by rw [hj1]), ag_ok (show fr < 40 by omega)]
            simp only [obs, hI.2.2.2 fr (by omega)]
            rw [if_neg (by rw [nI_eq (by omega) (by omega)]; exact hne)]
          · rw [if_pos (nI_lt (by omega) (by omega))]
      · have p10 : 10 ≤ nI s := le10 h10 h18
        have n10' : ¬ nI s < 10 := nlt10 h10 h18
        have hrs := rs_lt (show s - 10 < 8 by omega) (show fr < 9 by omega) (show fr + j < 9 by omega)
        have epart : (81 : Int32) * (nI s - 10) + (9 : Int32) * nI fr + nI (fr + j) = nI (rs (s - 10) fr (fr + j)) := by
          have e1 : (81 : Int32) * nI (s - 10) = nI (81 * (s - 10)) := pk_mul 81 _
          have e2 : (9 : Int32) * nI fr = nI (9 * fr) := pk_mul 9 _
          rw [sub10 h10, e1, e2, nI_add, nI_add]; rfl
        have hb0 := hB (rs (s - 10) fr (fr + j)) (Nat.zero_le _) hrs
        cases hbv : (B (rs (s - 10) fr (fr + j))).1 with
        | none =>
          left
          have hbl : bl (rs (s - 10) fr (fr + j)) = -1 := by rw [hb0.1, hbv]; rfl
          refine ⟨nI (fr + (j + 1)), tr, tl, pt, pl2, hskip ?_, fun rc => ?_⟩
          · unfold sw
            rw [if_neg h10]; exact Subtype.ext hbv
          · simp only [bX12_extends1_30, jn_, jn4, jn2, lt_]
            rw [if_neg hnl, if_pos p10, if_pos p10, if_neg n10', epart, ag_ok hrs]
            simp only [obs, hbl]
            rw [if_neg (by decide), nI_1]; rfl
        | some u =>
          left
          have hoku := (B (rs (s - 10) fr (fr + j))).2
          rw [hbv] at hoku
          have h40u := ok40 hoku
          have hbl : bl (rs (s - 10) fr (fr + j)) = nI u.length := by rw [hb0.1, hbv]; rfl
          obtain ⟨b0, b1, b2, b3, b4, hb, hrun⟩ := goDo (fun z => absurd z h10) (fun _ => by rw [hbv]; simp)
          refine ⟨b0, b1, b2, b3, b4, hb, fun rc => ?_⟩
          rw [← hrun rc]
          simp only [bX12_extends1_30, jn_, jn4, jn2, lt_]
          rw [if_neg hnl, if_pos p10, if_pos p10, if_neg n10', epart, ag_ok hrs]
          simp only [obs, hbl]
          rw [if_pos (nI_pos' (by omega))]
    · rintro ix tr tl pt pl2 ⟨rfl, _, P1, S1, a1, a2⟩
      have e1 : fr + (I.length + 1 - fr) = I.length + 1 := by omega
      rw [e1] at a1 a2 ⊢
      refine ⟨_, ⟨pt, pl2, tr, tl, P1, rfl, S1, fun b h1 h2 => a1 b h1 (by omega), fun x hx => a2 x (fun b h1 h2 => hx b h1 (by omega))⟩, fun rc => ?_⟩
      simp only [bX12_extends1_30]
      rw [hI.1, if_pos (nI_lt (by omega) (by omega))]
end MX2
