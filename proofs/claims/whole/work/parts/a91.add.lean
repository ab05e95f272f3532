/-! THE CALL addProduction on both sides -/
theorem c_isNt (x : Int32) : fX11_isNonterminal x = some (b01 (inI x 8)) := c_has x (n := 8) (by decide)
theorem c_parse5 {l : Nat} (hl : l < 8) (f : Nat → Int32) {ρ : Type} (K : Int32 → Option ρ) : ((fX6_emptyOf (nI l)).bind fun x2 => (fX6_extendedByArgument x2 0 (f 0)).bind fun x3 => (fX6_extendedByArgument x3 1 (f 1)).bind fun x4 => (fX6_extendedByArgument x4 2 (f 2)).bind fun x5 => (fX6_extendedByArgument x5 3 (f 3)).bind fun x6 => (fX6_extendedByArgument x6 4 (f 4)).bind fun x7 => K x7) = K (encO (stO l f 5)) := by
  have e0 : fX6_emptyOf (nI l) = some (encO (stO l f 0)) := rfl
  have s0 : fX6_extendedByArgument (encO (stO l f 0)) 0 (f 0) = _ := c_step hl f (i := 0) (by decide)
  have s1 : fX6_extendedByArgument (encO (stO l f 1)) 1 (f 1) = _ := c_step hl f (i := 1) (by decide)
  have s2 : fX6_extendedByArgument (encO (stO l f 2)) 2 (f 2) = _ := c_step hl f (i := 2) (by decide)
  have s3 : fX6_extendedByArgument (encO (stO l f 3)) 3 (f 3) = _ := c_step hl f (i := 3) (by decide)
  have s4 : fX6_extendedByArgument (encO (stO l f 4)) 4 (f 4) = _ := c_step hl f (i := 4) (by decide)
  rw [e0, obs, s0, obs, s1, obs, s2, obs, s3, obs, s4, obs]
theorem m_tail1 (c_rules c_lefts c_sizes c_rights c_edits c_pastRules c_pastLefts c_pastSizes c_pastRights c_levels c_codes c_details c_isWorked c_empties c_firsts c_follows c_isKept c_keptEmpties c_keptFirsts c_keptFollows c_strings c_longs c_trial c_trialLong) (f : Nat → Int32) (k74) {m : Nat} (hm : m ≤ 5) {N : Nat} (hN : 30 < N) (ha : ∀ k, m ≤ k → k < 5 → f k = -1) : itr (bX12_addProduction_70 c_rules c_lefts c_sizes c_rights c_edits c_pastRules c_pastLefts c_pastSizes c_pastRights c_levels c_codes c_details c_isWorked c_empties c_firsts c_follows c_isKept c_keptEmpties c_keptFirsts c_keptFollows c_strings c_longs c_trial c_trialLong f k74) N (nI m) = k74 () := ((m_tail c_rules c_lefts c_sizes c_rights c_edits c_pastRules c_pastLefts c_pastSizes c_pastRights c_levels c_codes c_details c_isWorked c_empties c_firsts c_follows c_isKept c_keptEmpties c_keptFirsts c_keptFollows c_strings c_longs c_trial c_trialLong f k74 hm hN).resolve_right fun h => h.1 ha).2
theorem m_tail2 (c_rules c_lefts c_sizes c_rights c_edits c_pastRules c_pastLefts c_pastSizes c_pastRights c_levels c_codes c_details c_isWorked c_empties c_firsts c_follows c_isKept c_keptEmpties c_keptFirsts c_keptFollows c_strings c_longs c_trial c_trialLong) (f : Nat → Int32) (k74) {m : Nat} (hm : m ≤ 5) {N : Nat} (hN : 30 < N) (ha : ¬ ∀ k, m ≤ k → k < 5 → f k = -1) : itr (bX12_addProduction_70 c_rules c_lefts c_sizes c_rights c_edits c_pastRules c_pastLefts c_pastSizes c_pastRights c_levels c_codes c_details c_isWorked c_empties c_firsts c_follows c_isKept c_keptEmpties c_keptFirsts c_keptFollows c_strings c_longs c_trial c_trialLong f k74) N (nI m) = some ((-1), c_rules, c_lefts, c_sizes, c_rights, c_edits, c_pastRules, c_pastLefts, c_pastSizes, c_pastRights, c_levels, c_codes, c_details, f, c_isWorked, c_empties, c_firsts, c_follows, c_isKept, c_keptEmpties, c_keptFirsts, c_keptFollows, c_strings, c_longs, c_trial, c_trialLong) := ((m_tail c_rules c_lefts c_sizes c_rights c_edits c_pastRules c_pastLefts c_pastSizes c_pastRights c_levels c_codes c_details c_isWorked c_empties c_firsts c_follows c_isKept c_keptEmpties c_keptFirsts c_keptFollows c_strings c_longs c_trial c_trialLong f k74 hm hN).resolve_left fun h => ha h.1).2
section KA
variable {codes : Nat → Int32} {count : Int32} {sc : Nat → Nat → Int32} {sn : Nat → Int32} {nw sz E : Int32} {F W : Nat → Int32} {E0 : Int32} {F0 W0 se ps lo : Nat → Int32} {cf : Int32} {fc fd : Nat → Int32} {fl : Int32} {c : Nat → Int32} {h l : Nat → Int64} {pk key rules : Int32} {lefts sizes rights : Nat → Int32} {ed : Int32} {pr pl pz pg : Nat → Int32} {lv : Int32} {mc md : Nat → Int32} {iw e : Int32} {f w : Nat → Int32} {ik ke : Int32} {kf kw st lg : Nat → Int32} {G : List gP} {hs : List (List gP)} {L : List (Int32 × Int32)}
def g5 (asked : Nat → Int32) (x2 x3 x4 x5 x6 : Int32) : Nat → Int32 := upd (upd (upd (upd (upd asked 0 x2) 1 x3) 2 x4) 3 x5) 4 x6
theorem m_addHead (asked tr : Nat → Int32) (tl x1 x2 x3 x4 x5 x6 : Int32) {m : Nat} (h1 : m ≤ 5) (h2 : ∀ k, k < m → (symI (g5 asked x2 x3 x4 x5 x6 k)).isSome = true) (h3 : m < 5 → symI (g5 asked x2 x3 x4 x5 x6 m) = none) {N : Nat} (hN : 2000 < N) (ha : ∀ k, m ≤ k → k < 5 → g5 asked x2 x3 x4 x5 x6 k = -1) (hx : inI x1 8 = true) : fX12_addProduction N rules lefts sizes rights ed pr pl pz pg lv mc md asked iw e f w ik ke kf kw st lg tr tl x1 x2 x3 x4 x5 x6 = itr (bX12_addProduction_107 N x1 rules lefts sizes rights ed pr pl pz pg lv mc md iw e f w ik ke kf kw st lg tr tl (g5 asked x2 x3 x4 x5 x6) (nI m) (fun _ => if rules = 24 then (some ((-3), rules, lefts, sizes, rights, ed, pr, pl, pz, pg, lv, mc, md, g5 asked x2 x3 x4 x5 x6, iw, e, f, w, ik, ke, kf, kw, st, lg, tr, tl)) else (bd17 (fX12_edits N rules lefts sizes rights ed pr pl pz pg iw e f w ik ke kf kw st lg tr tl) fun o10 o11 o12 o13 o14 o15 o16 o17 o18 o19 o20 o21 o22 o23 o24 o25 o26 =>
bd4 (fX12_opens rules lefts sizes x1) fun o30 o27 o28 o29 => itr3 (bX12_addProduction_252 (g5 asked x2 x3 x4 x5 x6) (nI m) o30 (fun v31 v32 => some (o30, o27, o28, v31, v32, o10, o11, o12, o13, o14, lv, mc, md, g5 asked x2 x3 x4 x5 x6, o15, o16, o17, o18, o19, o20, o21, o22, o23, o24, o25, o26))) N 0 o29 rights))) N 0 := by
  have a0 : ∀ g x, as_ g 5 0 x = some (upd g 0 x) := fun g x => as_ok (i := 0) (by decide)
  have a1 : ∀ g x, as_ g 5 1 x = some (upd g 1 x) := fun g x => as_ok (i := 1) (by decide)
  have a2 : ∀ g x, as_ g 5 2 x = some (upd g 2 x) := fun g x => as_ok (i := 2) (by decide)
  have a3 : ∀ g x, as_ g 5 3 x = some (upd g 3 x) := fun g x => as_ok (i := 3) (by decide)
  have a4 : ∀ g x, as_ g 5 4 x = some (upd g 4 x) := fun g x => as_ok (i := 4) (by decide)
  simp only [fX12_addProduction, a0, a1, a2, a3, a4, obs, jn_, jn2]
  have eg : upd (upd (upd (upd (upd asked 0 x2) 1 x3) 2 x4) 3 x5) 4 x6 = g5 asked x2 x3 x4 x5 x6 := rfl
  rw [eg, m_lead _ h1 h2 h3 _ (show 30 < N by omega)]
  rw [m_tail1 _ _ _ _ _ _ _ _ _ _ _ _ _ _ _ _ _ _ _ _ _ _ _ _ _ _ h1 (show 30 < N by omega) ha, m_isName]
  simp only [obs]
  rw [hx, if_neg (by decide)]
theorem m_addBad (asked tr : Nat → Int32) (tl x1 x2 x3 x4 x5 x6 : Int32) {m : Nat} (h1 : m ≤ 5) (h2 : ∀ k, k < m → (symI (g5 asked x2 x3 x4 x5 x6 k)).isSome = true) (h3 : m < 5 → symI (g5 asked x2 x3 x4 x5 x6 m) = none) {N : Nat} (hN : 2000 < N) (hb : (¬ ∀ k, m ≤ k → k < 5 → g5 asked x2 x3 x4 x5 x6 k = -1) ∨ inI x1 8 = false) : fX12_addProduction N rules lefts sizes rights ed pr pl pz pg lv mc md asked iw e f w ik ke kf kw st lg tr tl x1 x2 x3 x4 x5 x6 = some (-1, rules, lefts, sizes, rights, ed, pr, pl, pz, pg, lv, mc, md, g5 asked x2 x3 x4 x5 x6, iw, e, f, w, ik, ke, kf, kw, st, lg, tr, tl) := by
  have a0 : ∀ g x, as_ g 5 0 x = some (upd g 0 x) := fun g x => as_ok (i := 0) (by decide)
  have a1 : ∀ g x, as_ g 5 1 x = some (upd g 1 x) := fun g x => as_ok (i := 1) (by decide)
  have a2 : ∀ g x, as_ g 5 2 x = some (upd g 2 x) := fun g x => as_ok (i := 2) (by decide)
  have a3 : ∀ g x, as_ g 5 3 x = some (upd g 3 x) := fun g x => as_ok (i := 3) (by decide)
  have a4 : ∀ g x, as_ g 5 4 x = some (upd g 4 x) := fun g x => as_ok (i := 4) (by decide)
  simp only [fX12_addProduction, a0, a1, a2, a3, a4, obs, jn_, jn2]
  have eg : upd (upd (upd (upd (upd asked 0 x2) 1 x3) 2 x4) 3 x5) 4 x6 = g5 asked x2 x3 x4 x5 x6 := rfl
  rw [eg, m_lead _ h1 h2 h3 _ (show 30 < N by omega)]
  by_cases ha : ∀ k, m ≤ k → k < 5 → g5 asked x2 x3 x4 x5 x6 k = -1
  · rcases hb with hb | hb
    · exact absurd ha hb
    · rw [m_tail1 _ _ _ _ _ _ _ _ _ _ _ _ _ _ _ _ _ _ _ _ _ _ _ _ _ _ h1 (show 30 < N by omega) ha, m_isName]
      simp only [obs]
      rw [hb, if_pos (by rfl)]
  · rw [m_tail2 _ _ _ _ _ _ _ _ _ _ _ _ _ _ _ _ _ _ _ _ _ _ _ _ _ _ h1 (show 30 < N by omega) ha]
theorem k_add (H : ER G hs L codes count sc sn nw sz E F W E0 F0 W0 se ps lo cf fc fd fl c h l pk key rules lefts sizes rights ed pr pl pz pg lv mc md iw e f w ik ke kf kw st lg) (asked tr : Nat → Int32) (tl x1 x2 x3 x4 x5 x6 : Int32) {N : Nat} (hN : 2000 < N) : ∃ o o', fX11_addProduction N codes count sc sn nw sz E F W E0 F0 W0 se ps lo cf fc fd fl pk key x1 x2 x3 x4 x5 x6 = some o ∧ fX12_addProduction N rules lefts sizes rights ed pr pl pz pg lv mc md asked iw e f w ik ke kf kw st lg tr tl x1 x2 x3 x4 x5 x6 = some o' ∧ o.1 = o'.1 ∧ ∃ G' hs' L', ER G' hs' L' o.2.1 o.2.2.1 o.2.2.2.1 o.2.2.2.2.1 o.2.2.2.2.2.1 o.2.2.2.2.2.2.1 o.2.2.2.2.2.2.2.1 o.2.2.2.2.2.2.2.2.1 o.2.2.2.2.2.2.2.2.2.1 o.2.2.2.2.2.2.2.2.2.2.1 o.2.2.2.2.2.2.2.2.2.2.2.1 o.2.2.2.2.2.2.2.2.2.2.2.2.1 o.2.2.2.2.2.2.2.2.2.2.2.2.2.1 o.2.2.2.2.2.2.2.2.2.2.2.2.2.2.1 o.2.2.2.2.2.2.2.2.2.2.2.2.2.2.2.1 o.2.2.2.2.2.2.2.2.2.2.2.2.2.2.2.2.1 o.2.2.2.2.2.2.2.2.2.2.2.2.2.2.2.2.2.1 o.2.2.2.2.2.2.2.2.2.2.2.2.2.2.2.2.2.2.1 o.2.2.2.2.2.2.2.2.2.2.2.2.2.2.2.2.2.2.2.1 c h l o.2.2.2.2.2.2.2.2.2.2.2.2.2.2.2.2.2.2.2.2.1 o.2.2.2.2.2.2.2.2.2.2.2.2.2.2.2.2.2.2.2.2.2 o'.2.1 o'.2.2.1 o'.2.2.2.1 o'.2.2.2.2.1 o'.2.2.2.2.2.1 o'.2.2.2.2.2.2.1 o'.2.2.2.2.2.2.2.1 o'.2.2.2.2.2.2.2.2.1 o'.2.2.2.2.2.2.2.2.2.1 o'.2.2.2.2.2.2.2.2.2.2.1 o'.2.2.2.2.2.2.2.2.2.2.2.1 o'.2.2.2.2.2.2.2.2.2.2.2.2.1 o'.2.2.2.2.2.2.2.2.2.2.2.2.2.2.1 o'.2.2.2.2.2.2.2.2.2.2.2.2.2.2.2.1 o'.2.2.2.2.2.2.2.2.2.2.2.2.2.2.2.2.1 o'.2.2.2.2.2.2.2.2.2.2.2.2.2.2.2.2.2.1 o'.2.2.2.2.2.2.2.2.2.2.2.2.2.2.2.2.2.2.1 o'.2.2.2.2.2.2.2.2.2.2.2.2.2.2.2.2.2.2.2.1 o'.2.2.2.2.2.2.2.2.2.2.2.2.2.2.2.2.2.2.2.2.1 o'.2.2.2.2.2.2.2.2.2.2.2.2.2.2.2.2.2.2.2.2.2.1 o'.2.2.2.2.2.2.2.2.2.2.2.2.2.2.2.2.2.2.2.2.2.2.1 o'.2.2.2.2.2.2.2.2.2.2.2.2.2.2.2.2.2.2.2.2.2.2.2.1 := by
  obtain ⟨hc, hM, hG, hHC, hHM, hS, hT, hX, hF1, hF2, hw, hK⟩ := H
  have q0 : x2 = g5 asked x2 x3 x4 x5 x6 0 := rfl
  have q1 : x3 = g5 asked x2 x3 x4 x5 x6 1 := rfl
  have q2 : x4 = g5 asked x2 x3 x4 x5 x6 2 := rfl
  have q3 : x5 = g5 asked x2 x3 x4 x5 x6 3 := rfl
  have q4 : x6 = g5 asked x2 x3 x4 x5 x6 4 := rfl
  by_cases hx : inI x1 8 = true
  · obtain ⟨l, hl, rfl⟩ := inI_of (by decide) hx
    obtain ⟨m, h1, h2, h3, h4⟩ := par_cases (l := l) (g5 asked x2 x3 x4 x5 x6)
    obtain ⟨KA, hKA⟩ : ∃ KA : Int32 → Option (Int32 × (Nat → Int32) × Int32 × (Nat → Nat → Int32) × (Nat → Int32) × Int32 × Int32 × Int32 × (Nat → Int32) × (Nat → Int32) × Int32 × (Nat → Int32) × (Nat → Int32) × (Nat → Int32) × (Nat → Int32) × (Nat → Int32) × Int32 × (Nat → Int32) × (Nat → Int32) × Int32 × Int32 × Int32), KA = (fun x7 => if 0 ≤ x7 then ((fX6_find N codes count x7).bind fun x8 =>
      if x8 < 0 then (if count < 24 then (bd8 (fX11_beginEdit codes count sc sn nw sz E F W E0 F0 W0) fun o16 o9 o10 o11 o12 o13 o14 o15 =>
      bd2 (fX6_add codes count x7) fun o17 o18 =>
      bd9 (fX11_endChange N o17 o18 E F W se ps lo cf pk key) fun o19 o20 o21 o22 o23 o24 o25 o26 o27 =>
      some ((o18 - (1 : Int32)), o17, o18, o9, o10, o11, o12, o19, o20, o21, o13, o14, o15, o22, o23, o24, o25, fc, fd, fl, o26, o27)) else (some ((-3), codes, count, sc, sn, nw, sz, E, F, W, E0, F0, W0, se, ps, lo, cf, fc, fd, fl, pk, key))) else (bd3 (fX1_begin fc fd fl 13 (nI l)) fun o28 o29 o30 =>
      bd3 (fX1_because o28 o29 o30 14 x8) fun o31 o32 o33 =>
      some ((-4), codes, count, sc, sn, nw, sz, E, F, W, E0, F0, W0, se, ps, lo, cf, o31, o32, o33, pk, key))) else (some ((-1), codes, count, sc, sn, nw, sz, E, F, W, E0, F0, W0, se, ps, lo, cf, fc, fd, fl, pk, key))) := ⟨_, rfl⟩
    have hp := c_parse5 hl (g5 asked x2 x3 x4 x5 x6) KA
    rw [← q0, ← q1, ← q2, ← q3, ← q4] at hp
    have e1 : fX11_addProduction N codes count sc sn nw sz E F W E0 F0 W0 se ps lo cf fc fd fl pk key (nI l) x2 x3 x4 x5 x6 = KA (encO (stO l (g5 asked x2 x3 x4 x5 x6) 5)) := by
      simp only [fX11_addProduction, c_isNt, hx, obs]
      rw [if_neg (show ¬ b01 true = 0 by decide), ← hp, hKA]
    rw [e1, hKA]
    rcases h4 with ⟨ha, e5⟩ | ⟨ha, e5⟩
    · have hq : okP (l, wd (g5 asked x2 x3 x4 x5 x6) m) := okP_wd hl h1 h2
      have e6 : encO (some (l, wd (g5 asked x2 x3 x4 x5 x6) m)) = nI (enc (l, wd (g5 asked x2 x3 x4 x5 x6) m)) := rfl
      rw [e5, m_addHead asked tr tl (nI l) x2 x3 x4 x5 x6 h1 h2 h3 hN ha hx, m_same hM hG hl h1 h2 _ _ _ _ _ _ _ _ _ _ _ _ _ _ _ _ _ _ _ _ _ (show 30 < N by omega) (show 30 < N by omega)]
      simp only [e6]
      rw [if_pos (show (0 : Int32) ≤ nI (enc (l, wd (g5 asked x2 x3 x4 x5 x6) m)) from nI_le (a := 0) (Nat.zero_le _) (enc_lt hq)), c_find hc hG hq (show 24 < N by omega)]
      have hl24 := hG.1
      cases ef : fstI (fun p => gp G p == (l, wd (g5 asked x2 x3 x4 x5 x6) m)) G.length with
      | some p =>
        have hpl : p < G.length := by
          have := List.mem_of_find?_eq_some (show (List.range G.length).find? _ = some p from ef)
          simpa using this
        obtain ⟨lv1, f1, d1, t1, r1⟩ := c_begin fl fc fd 13 (nI l)
        obtain ⟨lv2, f2, d2, t2, r2⟩ := c_because r1 (by simp) 14 (nI p)
        obtain ⟨lv3, f3, d3, t3, r3⟩ := m_tells0 lv mc md 13 (nI l)
        obtain ⟨lv4, f4, d4, t4, r4⟩ := m_tells1 r3 14 (nI p)
        refine ⟨(-4, codes, count, sc, sn, nw, sz, E, F, W, E0, F0, W0, se, ps, lo, cf, f2, d2, lv2, pk, key), (-4, rules, lefts, sizes, rights, ed, pr, pl, pz, pg, lv4, f4, d4, g5 asked x2 x3 x4 x5 x6, iw, e, f, w, ik, ke, kf, kw, st, lg, tr, tl), ?_, ?_, rfl, G, hs, _, hc, hM, hG, hHC, hHM, hS, hT, hX, r2, r4, hw, hK⟩
        · simp only [obs, oI]
          rw [if_neg (nI_pos (by omega))]
          simp only [t1, bd3, obs, t2]
        · simp only [t3, bd3, obs, t4]
      | none =>
        simp only [obs, oI]
        rw [if_pos (show (-1 : Int32) < 0 by decide)]
        by_cases h24 : G.length < 24
        · obtain ⟨j, sc', sn', nw', sz', k1, k2, b1, b2, b3, b4, b5, b6⟩ := c_beginEdit hHC hc hG E F W E0 F0 W0
          obtain ⟨codes', count', b7, b8⟩ := c_add hc (q := (l, wd (g5 asked x2 x3 x4 x5 x6) m)) h24
          have hG' := okG_app hG h24 hq ef
          obtain ⟨E', F', W', se', ps', lo', cf', b9, b10, b11⟩ := c_endChange b8 hG' E F W se ps lo cf pk key hN
          obtain ⟨ed', pr', pl', pz', pg', f', w', kf', kw', st', lg', tr', tl', m1, m2, m3, m4⟩ := m_edits hM hG hS tr tl hw hHM ik ke kf kw hN
          obtain ⟨s', g', m5, m6⟩ := m_added hM hG h24 (l := l) hl h1 h2 (fun v31 v32 => some (nI G.length, nI (G.length + 1), upd lefts G.length (nI l), v31, v32, ed', pr', pl', pz', pg', lv, mc, md, g5 asked x2 x3 x4 x5 x6, 0, E, f', w', 1, E, kf', kw', st', lg', tr', tl')) (show 30 < N by omega)
          refine ⟨(count' - 1, codes', count', sc', sn', nw', sz', E', F', W', E, k1, k2, se', ps', lo', cf', fc, fd, fl, 0, -1), (nI G.length, nI (G.length + 1), upd lefts G.length (nI l), s', g', ed', pr', pl', pz', pg', lv, mc, md, g5 asked x2 x3 x4 x5 x6, 0, E, f', w', 1, E, kf', kw', st', lg', tr', tl'), ?_, ?_, ?_, G ++ [(l, wd (g5 asked x2 x3 x4 x5 x6) m)], (G :: hs).take 10, L, b8, m6, hG', b2, m2, b10, b11, Or.inl ⟨rfl, rfl, ExI_ws hX⟩, hF1, hF2, Or.inl rfl, Or.inl ⟨rfl, rfl, fun n hn => ⟨by show kf' n = k1 n; rw [m3 n hn, b5 n hn], by show kw' n = k2 n; rw [m4 n hn, b6 n hn]⟩⟩⟩
          · rw [if_pos (show count < 24 by rw [hc.1]; exact ltL 24 24 h24)]
            simp only [b1, bd8, obs, b7, bd2, b9, bd9]
          · rw [if_neg (show ¬ rules = 24 from by rw [hM.1]; intro e; rw [n24, nI_eq (by omega) (by decide)] at e; omega)]
            simp only [m1, bd17, obs, m_opens hM h24, bd4]
            exact m5
          · show count' - 1 = nI G.length
            rw [b8.1, List.length_append, List.length_singleton, nI_sub1 (by omega)]
            rfl
        · have h24' : G.length = 24 := by omega
          refine ⟨(-3, codes, count, sc, sn, nw, sz, E, F, W, E0, F0, W0, se, ps, lo, cf, fc, fd, fl, pk, key), (-3, rules, lefts, sizes, rights, ed, pr, pl, pz, pg, lv, mc, md, g5 asked x2 x3 x4 x5 x6, iw, e, f, w, ik, ke, kf, kw, st, lg, tr, tl), ?_, ?_, rfl, G, hs, L, hc, hM, hG, hHC, hHM, hS, hT, hX, hF1, hF2, hw, hK⟩
          · rw [if_neg (show ¬ count < 24 by rw [hc.1, h24']; decide)]
          · rw [if_pos (show rules = 24 by rw [hM.1, h24']; rfl)]
    · rw [e5, m_addBad asked tr tl (nI l) x2 x3 x4 x5 x6 h1 h2 h3 hN (Or.inl ha)]
      refine ⟨(-1, codes, count, sc, sn, nw, sz, E, F, W, E0, F0, W0, se, ps, lo, cf, fc, fd, fl, pk, key), (-1, rules, lefts, sizes, rights, ed, pr, pl, pz, pg, lv, mc, md, g5 asked x2 x3 x4 x5 x6, iw, e, f, w, ik, ke, kf, kw, st, lg, tr, tl), ?_, rfl, rfl, G, hs, L, hc, hM, hG, hHC, hHM, hS, hT, hX, hF1, hF2, hw, hK⟩
      show (if 0 ≤ encO none then _ else _) = _
      rw [if_neg (show ¬ (0 : Int32) ≤ encO none by decide)]
  · have hx' : inI x1 8 = false := by simpa using hx
    obtain ⟨m, h1, h2, h3, h4⟩ := par_cases (l := 0) (g5 asked x2 x3 x4 x5 x6)
    refine ⟨(-1, codes, count, sc, sn, nw, sz, E, F, W, E0, F0, W0, se, ps, lo, cf, fc, fd, fl, pk, key), (-1, rules, lefts, sizes, rights, ed, pr, pl, pz, pg, lv, mc, md, g5 asked x2 x3 x4 x5 x6, iw, e, f, w, ik, ke, kf, kw, st, lg, tr, tl), ?_, ?_, rfl, G, hs, L, hc, hM, hG, hHC, hHM, hS, hT, hX, hF1, hF2, hw, hK⟩
    · simp only [fX11_addProduction, c_isNt, hx', obs]
      rw [if_pos (by rfl)]
    · exact m_addBad asked tr tl x1 x2 x3 x4 x5 x6 h1 h2 h3 hN (Or.inr hx')
end KA
