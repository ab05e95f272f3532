/-! THE CLASS'S lowerMarked and its loop -/
section CM2
variable {codes : Nat → Int32} {count : Int32} {G : List gP} {E : Int32} {pv : vW} {tk : Nat}
theorem b01_fl {ρ : Type} (a b : Bool) (A B : Option ρ) : (if b01 a = 0 then (if b01 b = 0 then A else B) else B) = if (b || a) = true then B else A := by
  cases a <;> cases b <;> simp [b01]
/-- one symbol of one production: the state with HEAD standing for what is ahead -/
theorem c_markStep (hc : RC codes count G) (hG : okG G) {p i : Nat} (hp : p < G.length) (hi : i < (gp G p).2.length) {c : Nat → Int32} {h l : Nat → Int64} {ω v bv : vW} (R : WS w0 362 c h l ω) (hE : Env G E pv ω) (hT : ∀ p, p < G.length → STL G E pv tk ω bv p) (hM : MK ω v) (hH : ω 72 = clv pv ((gp G p).2.take i)) (f : Bool) : ∃ (o : wsT) (ω' : vW), (∀ k9 rc, bX0_lowerMarked_24 (nI p) codes (nI (enc (gp G p))) k9 rc (b01 f) (nI i) c h l = rc (b01 (f || dMi E pv (bS tk bv) (gp G p) i v)) (nI (i + 1)) o.1 o.2.1 o.2.2) ∧ WS w0 362 o.1 o.2.1 o.2.2 ω' ∧ FrM ω ω' ∧ MK ω' (fMi E pv (bS tk bv) (gp G p) i v) ∧ ω' 72 = clv pv ((gp G p).2.take (i + 1)) := by
  have hl := hG.1
  have hq := okG_gp hG hp
  have h5 := hq.2.1
  have h8 := hq.1
  have cd := hc.2 p hp
  have hs := okP_sy hq hi
  have hs18 := okS_lt hs
  have e54 : (54 : Int32) + nI (sy (gp G p).2 i) = nI (54 + sy (gp G p).2 i) := nI_add 54 _
  have e36 : (36 : Int32) + nI (sy (gp G p).2 i) = nI (36 + sy (gp G p).2 i) := nI_add 36 _
  have z72 : (nI 72 : Int32) = 72 := rfl
  have z73 : (nI 73 : Int32) = 73 := rfl
  -- the last act: HEAD grows
  have fin : ∀ (o : wsT) (ω3 u : vW), WS w0 362 o.1 o.2.1 o.2.2 ω3 → FrM ω ω3 → MK ω3 u → ω3 72 = clv pv ((gp G p).2.take i) → ∃ (o' : wsT) (ω' : vW), fX10_append 362 o.1 o.2.1 o.2.2 72 (0 + nI (sy (gp G p).2 i)) = some o' ∧ WS w0 362 o'.1 o'.2.1 o'.2.2 ω' ∧ FrM ω ω' ∧ MK ω' u ∧ ω' 72 = clv pv ((gp G p).2.take (i + 1)) := by
    intro o ω3 u R3 F3 M3 H3
    obtain ⟨o4, e4, R4⟩ := w_append w0_9 R3 (n := 362) rfl (show 72 < 362 by decide) (show sy (gp G p).2 i < 362 by omega)
    rw [z72] at e4
    refine ⟨o4, _, by rw [zI]; exact e4, R4, FrM_upd F3 (by omega) (by omega) _, MK_tmp M3 (Or.inl rfl) _, ?_⟩
    rw [updW_s, H3, F3 _ (by omega), hE.1 _ hs, clv_take hi]
  -- the second act: where the production may be used at the end of the symbol
  have second : ∀ (o : wsT) (ω3 u : vW) (a : Bool), WS w0 362 o.1 o.2.1 o.2.2 ω3 → FrM ω ω3 → MK ω3 u → ω3 72 = clv pv ((gp G p).2.take i) → ∃ (o' : wsT) (ω' : vW), (∀ rc : Int32 → Int32 → (Nat → Int32) → (Nat → Int64) → (Nat → Int64) → Option (Int32 × (Nat → Int32) × (Nat → Int64) × (Nat → Int64)), ((fX10_exists 362 o.1 (36 + nI (sy (gp G p).2 i))).bind fun x23 => if x23 = 0 then bd3 (fX10_append 362 o.1 o.2.1 o.2.2 72 (0 + nI (sy (gp G p).2 i))) fun o28 o29 o30 => rc (b01 a) (nI i + 1) o28 o29 o30 else bd4 (fX0_lowerEnded codes o.1 o.2.1 o.2.2 (nI p) (nI i)) fun o36 o33 o34 o35 => if o36 = 0 then if b01 a = 0 then bd3 (fX10_append 362 o33 o34 o35 72 (0 + nI (sy (gp G p).2 i))) fun o28 o29 o30 => rc 0 (nI i + 1) o28 o29 o30 else bd3 (fX10_append 362 o33 o34 o35 72 (0 + nI (sy (gp G p).2 i))) fun o28 o29 o30 => rc 1 (nI i + 1) o28 o29 o30 else bd3 (fX10_append 362 o33 o34 o35 72 (0 + nI (sy (gp G p).2 i))) fun o28 o29 o30 => rc 1 (nI i + 1) o28 o29 o30) = rc (b01 (a || (!(decide (sy (gp G p).2 i < 10)) && dM2 E pv (bS tk bv) (gp G p) i u))) (nI (i + 1)) o'.1 o'.2.1 o'.2.2) ∧ WS w0 362 o'.1 o'.2.1 o'.2.2 ω' ∧ FrM ω ω' ∧ MK ω' (if (!(decide (sy (gp G p).2 i < 10))) = true then gM2 E pv (bS tk bv) (gp G p) i u else u) ∧ ω' 72 = clv pv ((gp G p).2.take (i + 1)) := by
    intro o ω3 u a R3 F3 M3 H3
    have ex := w_exists w0_9 R3 (n := 362) rfl (show 36 + sy (gp G p).2 i < 362 by omega)
    rw [(M3 _ hs).2] at ex
    by_cases h10 : sy (gp G p).2 i < 10
    · have hm : (mS 8 u (sy (gp G p).2 i)).1 = none := by unfold mS; rw [if_pos h10]; rfl
      rw [hm] at ex
      obtain ⟨o', ω', q1, q2, q3, q4, q5⟩ := fin o ω3 u R3 F3 M3 H3
      refine ⟨o', ω', fun rc => ?_, q2, q3, by rw [if_neg (by simp [h10])]; exact q4, q5⟩
      simp only [e36, ex, obs]
      rw [if_pos (by simp [b01]), q1]
      simp [bd3, h10, nI_1]
    · have hm : mS 8 u (sy (gp G p).2 i) = u (8 + (sy (gp G p).2 i - 10)) := by unfold mS; rw [if_neg h10]
      rw [hm] at ex
      have hd10 : (!(decide (sy (gp G p).2 i < 10))) = true := by simp [h10]
      by_cases hn : (u (8 + (sy (gp G p).2 i - 10))).1 = none
      · have hT0 : evT pv (gp G p) i u = wNo := by
          unfold evT
          have : u (8 + (sy (gp G p).2 i - 10)) = wNo := Subtype.ext hn
          rw [this, catW_no_r]
        have hS0 : evS E pv (bS tk bv) (gp G p) i u = wNo := by unfold evS; rw [hT0, catW_no_l]
        have hg : gM2 E pv (bS tk bv) (gp G p) i u = u := by
          unfold gM2 gE
          rw [hT0, hS0, minW_no_r w0_9, minW_no_r w0_9, updW_same, ite_self, updW_same]
        have hno : ∀ y : wW, ¬ ky w0 wNo < ky w0 y := fun y => by rw [ky_no]; have := ky_le_top w0_9 y; omega
        have hdm : dM2 E pv (bS tk bv) (gp G p) i u = false := by
          unfold dM2 dE
          rw [hT0, hS0]
          simp [hno]
        obtain ⟨o', ω', q1, q2, q3, q4, q5⟩ := fin o ω3 u R3 F3 M3 H3
        refine ⟨o', ω', fun rc => ?_, q2, q3, by rw [if_pos hd10, hg]; exact q4, q5⟩
        rw [hn] at ex
        simp only [e36, ex, obs]
        rw [if_pos (by simp [b01]), q1, hdm]
        simp [bd3, nI_1]
      · obtain ⟨o4, ω4, e4, R4, F4, M4, H4⟩ := c_lowerEnded hc hG hp hi h10 R3 (Env_fr hG hE (FrM_P F3)) (STL_fr hT F3) M3 H3
        have F4' : FrM ω ω4 := fun x hx => by rw [F4 x hx, F3 x hx]
        obtain ⟨o', ω', q1, q2, q3, q4, q5⟩ := fin o4 ω4 _ R4 F4' M4 (by rw [H4, H3])
        refine ⟨o', ω', fun rc => ?_, q2, q3, by rw [if_pos hd10]; exact q4, q5⟩
        simp only [e36, ex, obs]
        rw [if_neg (by simp [b01, hn]), e4, hd10, Bool.true_and]
        simp only [bd4, obs, q1, bd3]
        cases a <;> cases dM2 E pv (bS tk bv) (gp G p) i u <;> simp [b01, nI_1]
  have ex := w_exists w0_9 R (n := 362) rfl (show 54 + sy (gp G p).2 i < 362 by omega)
  rw [(hM _ hs).1] at ex
  have hbody : ∀ k9 (rc : Int32 → Int32 → (Nat → Int32) → (Nat → Int64) → (Nat → Int64) → Option (Int32 × (Nat → Int32) × (Nat → Int64) × (Nat → Int64))), (mS 0 v (sy (gp G p).2 i)).1 = none → bX0_lowerMarked_24 (nI p) codes (nI (enc (gp G p))) k9 rc (b01 f) (nI i) c h l = ((fX10_exists 362 c (36 + nI (sy (gp G p).2 i))).bind fun x23 => if x23 = 0 then bd3 (fX10_append 362 c h l 72 (0 + nI (sy (gp G p).2 i))) fun o28 o29 o30 => rc (b01 f) (nI i + 1) o28 o29 o30 else bd4 (fX0_lowerEnded codes c h l (nI p) (nI i)) fun o36 o33 o34 o35 => if o36 = 0 then if b01 f = 0 then bd3 (fX10_append 362 o33 o34 o35 72 (0 + nI (sy (gp G p).2 i))) fun o28 o29 o30 => rc 0 (nI i + 1) o28 o29 o30 else bd3 (fX10_append 362 o33 o34 o35 72 (0 + nI (sy (gp G p).2 i))) fun o28 o29 o30 => rc 1 (nI i + 1) o28 o29 o30 else bd3 (fX10_append 362 o33 o34 o35 72 (0 + nI (sy (gp G p).2 i))) fun o28 o29 o30 => rc 1 (nI i + 1) o28 o29 o30) := by
    intro k9 rc hno
    simp only [bX0_lowerMarked_24, c_lengthOf hq, obs]
    rw [if_neg (nI_ge hi (by omega)), c_symbolOf hq hi]
    simp only [obs, e54, ex, jn4, jn_, lt_]
    rw [hno, if_pos (by simp [b01])]
  by_cases h10 : sy (gp G p).2 i < 10
  · have hm : (mS 0 v (sy (gp G p).2 i)).1 = none := by unfold mS; rw [if_pos h10]; rfl
    obtain ⟨o', ω', q1, q2, q3, q4, q5⟩ := second (c, h, l) ω v f R (fun _ _ => rfl) hM hH
    refine ⟨o', ω', fun k9 rc => ?_, q2, q3, ?_, q5⟩
    · rw [hbody k9 rc hm]
      have := q1 rc
      have hd : dMi E pv (bS tk bv) (gp G p) i v = (!(decide (sy (gp G p).2 i < 10)) && dM2 E pv (bS tk bv) (gp G p) i v) := by unfold dMi; simp [h10]
      rw [hd]
      exact this
    · unfold fMi
      rw [if_neg (by simp [h10])] at q4 ⊢
      exact q4
  · have hd10 : (!(decide (sy (gp G p).2 i < 10))) = true := by simp [h10]
    have hm : mS 0 v (sy (gp G p).2 i) = v (sy (gp G p).2 i - 10) := by unfold mS; rw [if_neg h10, Nat.zero_add]
    by_cases hn : (v (sy (gp G p).2 i - 10)).1 = none
    · have hM0 : evM pv (gp G p) i v = wNo := by
        unfold evM
        have : v (sy (gp G p).2 i - 10) = wNo := Subtype.ext hn
        rw [this, catW_no_r, catW_no_l]
      have hg : gM1 pv (gp G p) i v = v := by unfold gM1; rw [hM0, minW_no_r w0_9, updW_same]
      have hdm : dM1 pv (gp G p) i v = false := by
        unfold dM1
        rw [hM0, ky_no]
        have := ky_le_top w0_9 (v (gp G p).1)
        simp; omega
      obtain ⟨o', ω', q1, q2, q3, q4, q5⟩ := second (c, h, l) ω v f R (fun _ _ => rfl) hM hH
      refine ⟨o', ω', fun k9 rc => ?_, q2, q3, ?_, q5⟩
      · rw [hbody k9 rc (by rw [hm]; exact hn)]
        have := q1 rc
        have hd : dMi E pv (bS tk bv) (gp G p) i v = (!(decide (sy (gp G p).2 i < 10)) && dM2 E pv (bS tk bv) (gp G p) i v) := by unfold dMi; rw [hdm, Bool.false_or, hg]
        rw [hd]
        exact this
      · unfold fMi
        rw [if_pos hd10] at q4 ⊢
        rw [hg]; exact q4
    · rw [hm] at ex
      obtain ⟨o1, e1, R1⟩ := w_putCopy R (n := 362) rfl (show 73 < 362 by decide) (show 72 < 362 by decide)
      obtain ⟨o2, e2, R2⟩ := w_append w0_9 R1 (n := 362) rfl (show 73 < 362 by decide) (show 54 + sy (gp G p).2 i < 362 by omega)
      obtain ⟨o3, e3, R3⟩ := w_append w0_9 R2 (n := 362) rfl (show 73 < 362 by decide) (show 74 + p * 6 + (i + 1) < 362 by omega)
      have v1 : catW (updW ω 73 (ω 72) 73) (updW ω 73 (ω 72) (54 + sy (gp G p).2 i)) = catW (clv pv ((gp G p).2.take i)) (v (sy (gp G p).2 i - 10)) := by
        rw [updW_s, updW_n (by omega), hH, (hM _ hs).1, hm]
      rw [v1] at R2 R3
      have v2 : catW (updW (updW ω 73 (ω 72)) 73 (catW (clv pv ((gp G p).2.take i)) (v (sy (gp G p).2 i - 10))) 73) (updW (updW ω 73 (ω 72)) 73 (catW (clv pv ((gp G p).2.take i)) (v (sy (gp G p).2 i - 10))) (74 + p * 6 + (i + 1))) = evM pv (gp G p) i v := by
        rw [updW_s, updW_n (by omega), updW_n (by omega), hE.2.1 p hp (i + 1) (by omega)]; rfl
      rw [v2] at R3
      obtain ⟨o4, e4, R4⟩ := w_lower w0_9 R3 (n := 362) rfl (show 54 + (10 + (gp G p).1) < 362 by omega) (show 73 < 362 by decide)
      have v3 : updW (updW (updW ω 73 (ω 72)) 73 (catW (clv pv ((gp G p).2.take i)) (v (sy (gp G p).2 i - 10)))) 73 (evM pv (gp G p) i v) (54 + (10 + (gp G p).1)) = v (gp G p).1 := by
        rw [updW_n (by omega), updW_n (by omega), updW_n (by omega), (hM (10 + (gp G p).1) (Or.inr ⟨by omega, by omega⟩)).1, mS_10, Nat.zero_add]
      rw [v3, updW_s] at e4 R4
      obtain ⟨o', ω', q1, q2, q3, q4, q5⟩ := second o4 _ (gM1 pv (gp G p) i v) (f || dM1 pv (gp G p) i v) R4 (FrM_upd (FrM_upd (FrM_upd (FrM_upd (fun _ _ => rfl) (by omega) (by omega) _) (by omega) (by omega) _) (by omega) (by omega) _) (by omega) (by omega) _) (MK_upd (MK_tmp (MK_tmp (MK_tmp hM (Or.inr rfl) _) (Or.inr rfl) _) (Or.inr rfl) _) h8 _) (by rw [updW_n (by omega), updW_n (by omega), updW_n (by omega), updW_n (by omega)]; exact hH)
      refine ⟨o', ω', fun k9 rc => ?_, q2, q3, ?_, q5⟩
      · have hq1 := q1 rc
        have hd : dMi E pv (bS tk bv) (gp G p) i v = (dM1 pv (gp G p) i v || (!(decide (sy (gp G p).2 i < 10)) && dM2 E pv (bS tk bv) (gp G p) i (gM1 pv (gp G p) i v))) := by unfold dMi; rw [hd10, Bool.true_and, Bool.true_and]
        rw [hd, ← Bool.or_assoc, ← hq1]
        have e74 : fX0_plainTail (nI p) (nI i + 1) = some (nI (74 + p * 6 + (i + 1))) := by rw [nI_1, c_plainTail]
        have e54' : (54 : Int32) + nI (10 + (gp G p).1) = nI (54 + (10 + (gp G p).1)) := nI_add 54 _
        rw [z72, z73] at e1
        rw [z73] at e2 e3 e4
        simp only [bX0_lowerMarked_24, c_lengthOf hq, obs]
        rw [if_neg (nI_ge hi (by omega)), c_symbolOf hq hi]
        simp only [obs, e54, ex, jn4, jn_, lt_]
        rw [if_neg (by simp [b01, hn])]
        simp only [e1, bd3, obs, e2, e74, e3, c_leftSymbol hc hG hp, e54', e4, bd4]
        have hdd : decide (ky w0 (evM pv (gp G p) i v) < ky w0 (v (gp G p).1)) = dM1 pv (gp G p) i v := rfl
        rw [hdd, b01_fl]
        cases hz : (f || dM1 pv (gp G p) i v) <;> simp [b01]
      · unfold fMi
        rw [if_pos hd10] at q4 ⊢
        exact q4
end CM2
