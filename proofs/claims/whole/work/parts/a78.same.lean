/-! THE REFERENCE'S finding of the same production -/
theorem m_same {rules : Int32} {lefts sizes rights : Nat → Int32} {G : List gP} (hM : RM rules lefts sizes rights G) (hG : okG G) {l m : Nat} (hl8 : l < 8) (hm : m ≤ 5) {f : Nat → Int32} (hf : ∀ k, k < m → (symI (f k)).isSome = true) (c_edits c_pastRules c_pastLefts c_pastSizes c_pastRights c_levels c_codes c_details c_isWorked c_empties c_firsts c_follows c_isKept c_keptEmpties c_keptFirsts c_keptFollows c_strings c_longs c_trial c_trialLong) (k44) {N0 : Nat} (hN0 : 30 < N0) {N : Nat} (hN : 30 < N) : itr (bX12_addProduction_107 N0 (nI l) rules lefts sizes rights c_edits c_pastRules c_pastLefts c_pastSizes c_pastRights c_levels c_codes c_details c_isWorked c_empties c_firsts c_follows c_isKept c_keptEmpties c_keptFirsts c_keptFollows c_strings c_longs c_trial c_trialLong f (nI m) k44) N 0 = match fstI (fun p => gp G p == (l, wd f m)) G.length with
    | some p => bd3 (fX12_tells c_levels c_codes c_details 0 13 (nI l)) fun o50 o51 o52 => bd3 (fX12_tells o50 o51 o52 1 14 (nI p)) fun o53 o54 o55 => some ((-4), rules, lefts, sizes, rights, c_edits, c_pastRules, c_pastLefts, c_pastSizes, c_pastRights, o53, o54, o55, f, c_isWorked, c_empties, c_firsts, c_follows, c_isKept, c_keptEmpties, c_keptFirsts, c_keptFollows, c_strings, c_longs, c_trial, c_trialLong)
    | none => k44 () := by
  have hl := hG.1
  refine srch (B := bX12_addProduction_107 N0 (nI l) rules lefts sizes rights c_edits c_pastRules c_pastLefts c_pastSizes c_pastRights c_levels c_codes c_details c_isWorked c_empties c_firsts c_follows c_isKept c_keptEmpties c_keptFirsts c_keptFollows c_strings c_longs c_trial c_trialLong f (nI m) k44) G.length N (by omega) (fun p => gp G p == (l, wd f m)) (fun p => bd3 (fX12_tells c_levels c_codes c_details 0 13 (nI l)) fun o50 o51 o52 => bd3 (fX12_tells o50 o51 o52 1 14 (nI p)) fun o53 o54 o55 => some ((-4), rules, lefts, sizes, rights, c_edits, c_pastRules, c_pastLefts, c_pastSizes, c_pastRights, o53, o54, o55, f, c_isWorked, c_empties, c_firsts, c_follows, c_isKept, c_keptEmpties, c_keptFirsts, c_keptFollows, c_strings, c_longs, c_trial, c_trialLong)) (k44 ()) ?_ ?_
  · intro p hp rc
    obtain ⟨b1, b2, b3⟩ := hM.2 p hp
    have hq := okG_gp hG hp
    have h8 := hq.1
    have h5 := hq.2.1
    have key : (gp G p == (l, wd f m)) = ((decide ((gp G p).1 = l) && decide ((gp G p).2.length = m)) && decide (∀ k, k < m → rights (5 * p + k) = f k)) := by
      have hsy : ∀ k, k < m → ∃ s, okS s ∧ f k = nI s ∧ (symI (f k)).getD 0 = s := fun k hk => by
        rcases symI_cases (f k) with ⟨s, hs, e1, e2⟩ | ⟨_, _, e⟩
        · exact ⟨s, hs, e1, by rw [e2]; rfl⟩
        · have := hf k hk
          rw [e] at this
          exact absurd this (by decide)
      rw [Bool.eq_iff_iff]
      simp only [beq_iff_eq, Bool.and_eq_true, decide_eq_true_eq]
      constructor
      · intro e
        rw [e]
        refine ⟨⟨rfl, wd_len _ _⟩, fun k hk => ?_⟩
        obtain ⟨s, hs, e1, e2⟩ := hsy k hk
        rw [b3 k (by rw [e]; show k < (wd f m).length; rw [wd_len]; exact hk), e]
        show nI (sy (wd f m) k) = f k
        rw [sy_wd f hk, e2, e1]
      · rintro ⟨⟨e1, e2⟩, e3⟩
        refine Prod.ext e1 ?_
        refine List.ext_getElem (by rw [e2]; exact (wd_len _ _).symm) fun k hk1 hk2 => ?_
        have hk : k < m := by rw [← e2]; exact hk1
        obtain ⟨s, hs, e4, e5⟩ := hsy k hk
        have e6 := e3 k hk
        rw [b3 k hk1, e4, nI_eq (by have := okS_lt (okP_sy hq hk1); omega) (by have := okS_lt hs; omega)] at e6
        have e7 := sy_get hk1
        have e8 := sy_get (show k < (wd f m).length from hk2)
        rw [List.getElem?_eq_getElem hk1] at e7
        have e8' : (wd f m)[k]? = some (wd f m)[k] := List.getElem?_eq_getElem hk2
        rw [e8'] at e8
        injection e7 with e7
        injection e8 with e8
        show (gp G p).2[k] = (wd f m)[k]
        rw [e7, e8, e6, sy_wd f hk, e5]
    simp only [bX12_addProduction_107]
    rw [hM.1, if_neg (nI_ge hp (by omega)), ag_ok (show p < 24 by omega), ← hM.1]
    simp only [obs, jn_, b1]
    rw [key]
    by_cases e1 : (gp G p).1 = l
    · rw [if_pos (by rw [e1]), ag_ok (show p < 24 by omega)]
      simp only [obs, b2]
      by_cases e2 : (gp G p).2.length = m
      · rw [if_pos (by rw [e2])]
        have := m_cmp rights f hm (show p < 24 by omega) (fun v49 => if v49 = 0 then (lt_ (nI p + 1) fun x56 => rc x56) else (bd3 (fX12_tells c_levels c_codes c_details 0 13 (nI l)) fun o50 o51 o52 => bd3 (fX12_tells o50 o51 o52 1 14 (nI p)) fun o53 o54 o55 => some ((-4), rules, lefts, sizes, rights, c_edits, c_pastRules, c_pastLefts, c_pastSizes, c_pastRights, o53, o54, o55, f, c_isWorked, c_empties, c_firsts, c_follows, c_isKept, c_keptEmpties, c_keptFirsts, c_keptFollows, c_strings, c_longs, c_trial, c_trialLong))) true hN0
        refine Eq.trans this ?_
        rw [decide_eq_true e1, decide_eq_true e2, Bool.and_true]
        cases (true && decide (∀ k, k < m → rights (5 * p + k) = f k))
        · rw [if_pos (by rfl), if_neg (by decide)]
          simp only [lt_, nI_1]
        · rfl
      · rw [if_neg (by rw [nI_eq (by omega) (by omega)]; exact e2)]
        have := m_cmp rights f hm (show p < 24 by omega) (fun v49 => if v49 = 0 then (lt_ (nI p + 1) fun x56 => rc x56) else (bd3 (fX12_tells c_levels c_codes c_details 0 13 (nI l)) fun o50 o51 o52 => bd3 (fX12_tells o50 o51 o52 1 14 (nI p)) fun o53 o54 o55 => some ((-4), rules, lefts, sizes, rights, c_edits, c_pastRules, c_pastLefts, c_pastSizes, c_pastRights, o53, o54, o55, f, c_isWorked, c_empties, c_firsts, c_follows, c_isKept, c_keptEmpties, c_keptFirsts, c_keptFollows, c_strings, c_longs, c_trial, c_trialLong))) false hN0
        refine Eq.trans this ?_
        rw [decide_eq_false e2, Bool.and_false, Bool.false_and, if_pos (by rfl), if_neg (by decide)]
        simp only [lt_, nI_1]
    · rw [if_neg (by rw [nI_eq (by omega) (by omega)]; exact e1)]
      have := m_cmp rights f hm (show p < 24 by omega) (fun v49 => if v49 = 0 then (lt_ (nI p + 1) fun x56 => rc x56) else (bd3 (fX12_tells c_levels c_codes c_details 0 13 (nI l)) fun o50 o51 o52 => bd3 (fX12_tells o50 o51 o52 1 14 (nI p)) fun o53 o54 o55 => some ((-4), rules, lefts, sizes, rights, c_edits, c_pastRules, c_pastLefts, c_pastSizes, c_pastRights, o53, o54, o55, f, c_isWorked, c_empties, c_firsts, c_follows, c_isKept, c_keptEmpties, c_keptFirsts, c_keptFollows, c_strings, c_longs, c_trial, c_trialLong))) false hN0
      refine Eq.trans this ?_
      rw [decide_eq_false e1, Bool.false_and, Bool.false_and, Bool.false_and, if_pos (by rfl), if_neg (by decide)]
      simp only [lt_, nI_1]
  · intro rc
    simp only [bX12_addProduction_107]
    rw [hM.1, if_pos (Int32.le_refl _)]
