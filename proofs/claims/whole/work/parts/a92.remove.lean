/-! THE CALLS removeProduction, clear, undo on both sides -/
section KR
variable {codes : Nat → Int32} {count : Int32} {sc : Nat → Nat → Int32} {sn : Nat → Int32} {nw sz E : Int32} {F W : Nat → Int32} {E0 : Int32} {F0 W0 se ps lo : Nat → Int32} {cf : Int32} {fc fd : Nat → Int32} {fl : Int32} {c : Nat → Int32} {h l : Nat → Int64} {pk key rules : Int32} {lefts sizes rights : Nat → Int32} {ed : Int32} {pr pl pz pg : Nat → Int32} {lv : Int32} {mc md : Nat → Int32} {iw e : Int32} {f w : Nat → Int32} {ik ke : Int32} {kf kw st lg : Nat → Int32} {G : List gP} {hs : List (List gP)} {L : List (Int32 × Int32)}
theorem m_isRule (x : Int32) {n : Nat} (hn : n < 2 ^ 30) : fX12_isRule (nI n) x = some (b01 (inI x n)) := by
  simp only [fX12_isRule, m_in x hn, obs, gz]
  rw [if_pos (b01_01 _)]
theorem RC_nil (codes : Nat → Int32) : RC codes 0 [] := ⟨rfl, fun p hp => absurd hp (Nat.not_lt_zero _)⟩
theorem RM_nil (lefts sizes rights : Nat → Int32) : RM 0 lefts sizes rights [] := ⟨rfl, fun p hp => absurd hp (Nat.not_lt_zero _)⟩
theorem okG_nil : okG [] := ⟨Nat.zero_le _, fun q hq => absurd hq (by simp), List.nodup_nil⟩
theorem k_remove (H : ER G hs L codes count sc sn nw sz E F W E0 F0 W0 se ps lo cf fc fd fl c h l pk key rules lefts sizes rights ed pr pl pz pg lv mc md iw e f w ik ke kf kw st lg) (tr : Nat → Int32) (tl : Int32) (x1 : Int32) {N : Nat} (hN : 2000 < N) : ∃ o o', fX11_removeProduction N codes count sc sn nw sz E F W E0 F0 W0 se ps lo cf pk key x1 = some o ∧ fX12_removeProduction N rules lefts sizes rights ed pr pl pz pg iw e f w ik ke kf kw st lg tr tl x1 = some o' ∧ o.1 = o'.1 ∧ ∃ G' hs' L', ER G' hs' L' o.2.1 o.2.2.1 o.2.2.2.1 o.2.2.2.2.1 o.2.2.2.2.2.1 o.2.2.2.2.2.2.1 o.2.2.2.2.2.2.2.1 o.2.2.2.2.2.2.2.2.1 o.2.2.2.2.2.2.2.2.2.1 o.2.2.2.2.2.2.2.2.2.2.1 o.2.2.2.2.2.2.2.2.2.2.2.1 o.2.2.2.2.2.2.2.2.2.2.2.2.1 o.2.2.2.2.2.2.2.2.2.2.2.2.2.1 o.2.2.2.2.2.2.2.2.2.2.2.2.2.2.1 o.2.2.2.2.2.2.2.2.2.2.2.2.2.2.2.1 o.2.2.2.2.2.2.2.2.2.2.2.2.2.2.2.2.1 fc fd fl c h l o.2.2.2.2.2.2.2.2.2.2.2.2.2.2.2.2.2.1 o.2.2.2.2.2.2.2.2.2.2.2.2.2.2.2.2.2.2 o'.2.1 o'.2.2.1 o'.2.2.2.1 o'.2.2.2.2.1 o'.2.2.2.2.2.1 o'.2.2.2.2.2.2.1 o'.2.2.2.2.2.2.2.1 o'.2.2.2.2.2.2.2.2.1 o'.2.2.2.2.2.2.2.2.2.1 lv mc md o'.2.2.2.2.2.2.2.2.2.2.1 o'.2.2.2.2.2.2.2.2.2.2.2.1 o'.2.2.2.2.2.2.2.2.2.2.2.2.1 o'.2.2.2.2.2.2.2.2.2.2.2.2.2.1 o'.2.2.2.2.2.2.2.2.2.2.2.2.2.2.1 o'.2.2.2.2.2.2.2.2.2.2.2.2.2.2.2.1 o'.2.2.2.2.2.2.2.2.2.2.2.2.2.2.2.2.1 o'.2.2.2.2.2.2.2.2.2.2.2.2.2.2.2.2.2.1 o'.2.2.2.2.2.2.2.2.2.2.2.2.2.2.2.2.2.2.1 o'.2.2.2.2.2.2.2.2.2.2.2.2.2.2.2.2.2.2.2.1 := by
  obtain ⟨hc, hM, hG, hHC, hHM, hS, hT, hX, hF1, hF2, hw, hK⟩ := H
  have hl24 := hG.1
  have e1 : fX6_has count x1 = some (b01 (inI x1 G.length)) := by rw [hc.1]; exact c_has x1 (by omega)
  have e2 : fX12_isRule rules x1 = some (b01 (inI x1 G.length)) := by rw [hM.1]; exact m_isRule x1 (by omega)
  by_cases hx : inI x1 G.length = true
  · obtain ⟨p, hp, rfl⟩ := inI_of (by omega) hx
    obtain ⟨j, sc', sn', nw', sz', k1, k2, b1, b2, b3, b4, b5, b6⟩ := c_beginEdit hHC hc hG E F W E0 F0 W0
    obtain ⟨codes', count', b7, b8⟩ := c_removeAt hc hG hp (show 30 < N by omega)
    have hG' := okG_erase hG p
    obtain ⟨E', F', W', se', ps', lo', cf', b9, b10, b11⟩ := c_endChange b8 hG' E F W se ps lo cf pk key hN
    obtain ⟨ed', pr', pl', pz', pg', f', w', kf', kw', st', lg', tr', tl', m1, m2, m3, m4⟩ := m_edits hM hG hS tr tl hw hHM ik ke kf kw hN
    obtain ⟨r', l', s', g', m5, m6⟩ := m_drops hM hG hp (show 30 < N by omega)
    refine ⟨(count', codes', count', sc', sn', nw', sz', E', F', W', E, k1, k2, se', ps', lo', cf', 0, -1), (r', r', l', s', g', ed', pr', pl', pz', pg', 0, E, f', w', 1, E, kf', kw', st', lg', tr', tl'), ?_, ?_, ?_, G.eraseIdx p, (G :: hs).take 10, L, b8, m6, hG', b2, m2, b10, b11, Or.inl ⟨rfl, rfl, ExI_ws hX⟩, hF1, hF2, Or.inl rfl, Or.inl ⟨rfl, rfl, fun n hn => ⟨by show kf' n = k1 n; rw [m3 n hn, b5 n hn], by show kw' n = k2 n; rw [m4 n hn, b6 n hn]⟩⟩⟩
    · simp only [fX11_removeProduction, e1, hx, obs]
      rw [if_neg (show ¬ b01 true = 0 by decide)]
      simp only [b1, bd8, obs, b7, bd2, b9, bd9]
    · simp only [fX12_removeProduction, e2, hx, obs]
      rw [if_neg (show ¬ b01 true = 0 by decide)]
      simp only [m1, bd17, obs, m5, bd4]
    · show count' = r'
      rw [b8.1, m6.1]
  · have hx' : inI x1 G.length = false := by simpa using hx
    refine ⟨(-1, codes, count, sc, sn, nw, sz, E, F, W, E0, F0, W0, se, ps, lo, cf, pk, key), (-1, rules, lefts, sizes, rights, ed, pr, pl, pz, pg, iw, e, f, w, ik, ke, kf, kw, st, lg, tr, tl), ?_, ?_, rfl, G, hs, L, hc, hM, hG, hHC, hHM, hS, hT, hX, hF1, hF2, hw, hK⟩
    · simp only [fX11_removeProduction, e1, hx', obs]
      rw [if_pos (by rfl)]
    · simp only [fX12_removeProduction, e2, hx', obs]
      rw [if_pos (by rfl)]
theorem k_clear (H : ER G hs L codes count sc sn nw sz E F W E0 F0 W0 se ps lo cf fc fd fl c h l pk key rules lefts sizes rights ed pr pl pz pg lv mc md iw e f w ik ke kf kw st lg) (tr : Nat → Int32) (tl : Int32)  {N : Nat} (hN : 2000 < N) : ∃ o o', fX11_clear N codes count sc sn nw sz E F W E0 F0 W0 se ps lo cf pk key = some o ∧ fX12_clear N rules lefts sizes rights ed pr pl pz pg iw e f w ik ke kf kw st lg tr tl = some o' ∧ o.1 = o'.1 ∧ ∃ G' hs' L', ER G' hs' L' codes o.2.1 o.2.2.1 o.2.2.2.1 o.2.2.2.2.1 o.2.2.2.2.2.1 o.2.2.2.2.2.2.1 o.2.2.2.2.2.2.2.1 o.2.2.2.2.2.2.2.2.1 o.2.2.2.2.2.2.2.2.2.1 o.2.2.2.2.2.2.2.2.2.2.1 o.2.2.2.2.2.2.2.2.2.2.2.1 o.2.2.2.2.2.2.2.2.2.2.2.2.1 o.2.2.2.2.2.2.2.2.2.2.2.2.2.1 o.2.2.2.2.2.2.2.2.2.2.2.2.2.2.1 o.2.2.2.2.2.2.2.2.2.2.2.2.2.2.2.1 fc fd fl c h l o.2.2.2.2.2.2.2.2.2.2.2.2.2.2.2.2.1 o.2.2.2.2.2.2.2.2.2.2.2.2.2.2.2.2.2 o'.2.1 lefts sizes rights o'.2.2.1 o'.2.2.2.1 o'.2.2.2.2.1 o'.2.2.2.2.2.1 o'.2.2.2.2.2.2.1 lv mc md o'.2.2.2.2.2.2.2.1 o'.2.2.2.2.2.2.2.2.1 o'.2.2.2.2.2.2.2.2.2.1 o'.2.2.2.2.2.2.2.2.2.2.1 o'.2.2.2.2.2.2.2.2.2.2.2.1 o'.2.2.2.2.2.2.2.2.2.2.2.2.1 o'.2.2.2.2.2.2.2.2.2.2.2.2.2.1 o'.2.2.2.2.2.2.2.2.2.2.2.2.2.2.1 o'.2.2.2.2.2.2.2.2.2.2.2.2.2.2.2.1 o'.2.2.2.2.2.2.2.2.2.2.2.2.2.2.2.2.1 := by
  obtain ⟨hc, hM, hG, hHC, hHM, hS, hT, hX, hF1, hF2, hw, hK⟩ := H
  have hl24 := hG.1
  obtain ⟨j, sc', sn', nw', sz', k1, k2, b1, b2, b3, b4, b5, b6⟩ := c_beginEdit hHC hc hG E F W E0 F0 W0
  obtain ⟨E', F', W', se', ps', lo', cf', b9, b10, b11⟩ := c_endChange (RC_nil codes) okG_nil E F W se ps lo cf pk key hN
  obtain ⟨ed', pr', pl', pz', pg', f', w', kf', kw', st', lg', tr', tl', m1, m2, m3, m4⟩ := m_edits hM hG hS tr tl hw hHM ik ke kf kw hN
  refine ⟨(count, 0, sc', sn', nw', sz', E', F', W', E, k1, k2, se', ps', lo', cf', 0, -1), (rules, 0, ed', pr', pl', pz', pg', 0, E, f', w', 1, E, kf', kw', st', lg', tr', tl'), ?_, ?_, ?_, [], (G :: hs).take 10, L, RC_nil codes, RM_nil lefts sizes rights, okG_nil, b2, m2, b10, b11, Or.inl ⟨rfl, rfl, ExI_ws hX⟩, hF1, hF2, Or.inl rfl, Or.inl ⟨rfl, rfl, fun n hn => ⟨by show kf' n = k1 n; rw [m3 n hn, b5 n hn], by show kw' n = k2 n; rw [m4 n hn, b6 n hn]⟩⟩⟩
  · simp only [fX11_clear, b1, bd8, obs, fX6_removeAll, b9, bd9]
  · simp only [fX12_clear, m1, bd17, obs]
  · show count = rules
    rw [hc.1, hM.1]
theorem k_undo (H : ER G hs L codes count sc sn nw sz E F W E0 F0 W0 se ps lo cf fc fd fl c h l pk key rules lefts sizes rights ed pr pl pz pg lv mc md iw e f w ik ke kf kw st lg) (tr : Nat → Int32) (tl : Int32)  {N : Nat} (hN : 2000 < N) : ∃ o o', fX11_undo N codes count sc sn nw sz E F W E0 F0 W0 se ps lo cf pk key = some o ∧ fX12_undo N rules lefts sizes rights ed pr pl pz pg iw e f w ik ke kf kw st lg tr tl = some o' ∧ o.1 = o'.1 ∧ ∃ G' hs' L', ER G' hs' L' o.2.1 o.2.2.1 sc sn o.2.2.2.1 o.2.2.2.2.1 o.2.2.2.2.2.1 o.2.2.2.2.2.2.1 o.2.2.2.2.2.2.2.1 o.2.2.2.2.2.2.2.2.1 o.2.2.2.2.2.2.2.2.2.1 o.2.2.2.2.2.2.2.2.2.2.1 o.2.2.2.2.2.2.2.2.2.2.2.1 o.2.2.2.2.2.2.2.2.2.2.2.2.1 o.2.2.2.2.2.2.2.2.2.2.2.2.2.1 o.2.2.2.2.2.2.2.2.2.2.2.2.2.2.1 fc fd fl c h l o.2.2.2.2.2.2.2.2.2.2.2.2.2.2.2.1 o.2.2.2.2.2.2.2.2.2.2.2.2.2.2.2.2 o'.2.1 o'.2.2.1 o'.2.2.2.1 o'.2.2.2.2.1 o'.2.2.2.2.2.1 pr pl pz pg lv mc md o'.2.2.2.2.2.2.1 o'.2.2.2.2.2.2.2.1 o'.2.2.2.2.2.2.2.2.1 o'.2.2.2.2.2.2.2.2.2.1 o'.2.2.2.2.2.2.2.2.2.2.1 o'.2.2.2.2.2.2.2.2.2.2.2.1 o'.2.2.2.2.2.2.2.2.2.2.2.2.1 o'.2.2.2.2.2.2.2.2.2.2.2.2.2.1 o'.2.2.2.2.2.2.2.2.2.2.2.2.2.2.1 o'.2.2.2.2.2.2.2.2.2.2.2.2.2.2.2.1 := by
  obtain ⟨hc, hM, hG, hHC, hHM, hS, hT, hX, hF1, hF2, hw, hK⟩ := H
  have hl24 := hG.1
  cases hs with
  | nil =>
    refine ⟨(-2, codes, count, nw, sz, E, F, W, E0, F0, W0, se, ps, lo, cf, pk, key), (-2, rules, lefts, sizes, rights, ed, iw, e, f, w, ik, ke, kf, kw, st, lg, tr, tl), ?_, ?_, rfl, G, [], L, hc, hM, hG, hHC, hHM, hS, hT, hX, hF1, hF2, hw, hK⟩
    · simp only [fX11_undo]
      rw [if_pos (show sz = 0 from hHC.2.1)]
    · simp only [fX12_undo]
      rw [if_pos (show ed = 0 from hHM.2.1)]
  | cons G1 hs =>
    have h10 := hHC.1
    rw [List.length_cons] at h10
    obtain ⟨k1, k2, b1, b5, b6⟩ := c_setsBecome E0 E F0 F W0 W
    obtain ⟨nw', sz', codes', count', b2, b3, b4, hG1⟩ := c_restore hHC codes count
    obtain ⟨E', F', W', se', ps', lo', cf', b9, b10, b11⟩ := c_endChange b4 hG1 E F W se ps lo cf pk key hN
    obtain ⟨f', w', st', lg', tr', tl', v, m1, q1⟩ := m_works hM hG hS tr tl hw hN
    obtain ⟨kf', kw', m2, a1, a2⟩ := m_keepsSets E ik ke f' w' kf kw (show 30 < N by omega)
    have m3 : ∀ n, n < 8 → kf' n = F n := fun n hn => by rw [a1 n hn]; exact q1.2.1 n hn
    have m4 : ∀ n, n < 8 → kw' n = W n := fun n hn => by rw [a2 n hn]; exact q1.2.2.1 n hn
    have hp := (hHM.2.2 0 (by rw [List.length_cons]; omega)).1
    have e0 : (G1 :: hs).length - 1 - 0 = hs.length := by rw [List.length_cons]; omega
    rw [e0] at hp
    obtain ⟨r', l', s', g', m5, m6⟩ := m_laysBack (show okG ((G1 :: hs).getD 0 []) from hG1) (show hs.length < 10 by omega) hp rules lefts sizes rights (show 130 < N by omega)
    have e3 : ed - 1 = nI hs.length := by rw [hHM.2.1, List.length_cons, nI_sub1 (by omega)]; rfl
    have hHM' : HM hs (nI hs.length) pr pl pz pg := by
      refine ⟨by omega, rfl, fun i hi => ?_⟩
      have := hHM.2.2 (i + 1) (by rw [List.length_cons]; omega)
      rw [List.length_cons, show hs.length + 1 - 1 - (i + 1) = hs.length - 1 - i by omega] at this
      exact this
    refine ⟨(sz', codes', count', nw', sz', E', F', W', E, k1, k2, se', ps', lo', cf', 0, -1), (nI hs.length, r', l', s', g', nI hs.length, 0, E, f', w', 1, E, kf', kw', st', lg', tr', tl'), ?_, ?_, b3.2.1, G1, hs, L, b4, m6, hG1, b3, hHM', b10, b11, Or.inl ⟨rfl, rfl, ExI_ws hX⟩, hF1, hF2, Or.inl rfl, Or.inl ⟨rfl, rfl, fun n hn => ⟨by show kf' n = k1 n; rw [m3 n hn, b5 n hn], by show kw' n = k2 n; rw [m4 n hn, b6 n hn]⟩⟩⟩
    · simp only [fX11_undo]
      rw [if_neg (show ¬ sz = 0 from by rw [hHC.2.1, List.length_cons]; exact nI_ne0 (by omega) (by omega))]
      simp only [b1, bd3, obs, b2, bd4, b9, bd9]
    · simp only [fX12_undo]
      rw [if_neg (show ¬ ed = 0 from by rw [hHM.2.1, List.length_cons]; exact nI_ne0 (by omega) (by omega))]
      simp only [m1, bd8, obs, m2, bd4, e3, lt_, m5]
end KR
