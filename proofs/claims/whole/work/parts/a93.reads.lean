/-! THE CALLS that only read: the rules, the sets, the table -/
section RD
variable {codes : Nat → Int32} {count : Int32} {sc : Nat → Nat → Int32} {sn : Nat → Int32} {nw sz E : Int32} {F W : Nat → Int32} {E0 : Int32} {F0 W0 se ps lo : Nat → Int32} {cf : Int32} {fc fd : Nat → Int32} {fl : Int32} {c : Nat → Int32} {h l : Nat → Int64} {pk key rules : Int32} {lefts sizes rights : Nat → Int32} {ed : Int32} {pr pl pz pg : Nat → Int32} {lv : Int32} {mc md : Nat → Int32} {iw e : Int32} {f w : Nat → Int32} {ik ke : Int32} {kf kw st lg : Nat → Int32} {G : List gP} {hs : List (List gP)} {L : List (Int32 × Int32)}
theorem ER_works (H : ER G hs L codes count sc sn nw sz E F W E0 F0 W0 se ps lo cf fc fd fl c h l pk key rules lefts sizes rights ed pr pl pz pg lv mc md iw e f w ik ke kf kw st lg) (tr : Nat → Int32) (tl : Int32) {N : Nat} (hN : 2000 < N) : ∃ f' w' st' lg' tr' tl' v, fX12_works N rules lefts sizes rights iw e f w st lg tr tl = some (1, E, f', w', st', lg', tr', tl') ∧ WK G E F W E f' w' st' lg' v ∧ ER G hs L codes count sc sn nw sz E F W E0 F0 W0 se ps lo cf fc fd fl c h l pk key rules lefts sizes rights ed pr pl pz pg lv mc md 1 E f' w' ik ke kf kw st' lg' := by
  obtain ⟨hc, hM, hG, hHC, hHM, hS, hT, hX, hF1, hF2, hw, hK⟩ := H
  obtain ⟨f', w', st', lg', tr', tl', v, m1, q1⟩ := m_works hM hG hS tr tl hw hN
  exact ⟨f', w', st', lg', tr', tl', v, m1, q1, hc, hM, hG, hHC, hHM, hS, hT, hX, hF1, hF2, Or.inr ⟨rfl, v, q1⟩, hK⟩
theorem nmI_in {n : Nat} (h : n < 8) (g : Nat → Int32) : nmI (nI n) g = g n := by
  unfold nmI
  rw [if_pos (inI_nI h (by decide)), nI_clamp (by omega)]
theorem nmI_out {x : Int32} (h : inI x 8 = false) (g : Nat → Int32) : nmI x g = -1 := by
  unfold nmI
  rw [if_neg (by rw [h]; decide)]
def ruI (x : Int32) (n : Nat) (g : Nat → Int32) : Int32 := if inI x n = true then g x.toNatClampNeg else -1
theorem ruI_in {p n : Nat} (h : p < n) (hn : n < 2 ^ 31) (g : Nat → Int32) : ruI (nI p) n g = g p := by
  unfold ruI
  rw [if_pos (inI_nI h hn), nI_clamp (by omega)]
theorem ruI_out {x : Int32} {n : Nat} (h : inI x n = false) (g : Nat → Int32) : ruI x n g = -1 := by
  unfold ruI
  rw [if_neg (by rw [h]; decide)]
theorem inI_tf (x : Int32) (n : Nat) : inI x n = true ∨ inI x n = false := by cases inI x n <;> simp
theorem k_count (H : ER G hs L codes count sc sn nw sz E F W E0 F0 W0 se ps lo cf fc fd fl c h l pk key rules lefts sizes rights ed pr pl pz pg lv mc md iw e f w ik ke kf kw st lg)   {N : Nat} (hN : 2000 < N) : ∃ o o', fX11_productionCount count = some o ∧ fX12_productionCount rules = some o' ∧ o = o' ∧ ∃ G' hs' L', ER G' hs' L' codes count sc sn nw sz E F W E0 F0 W0 se ps lo cf fc fd fl c h l pk key rules lefts sizes rights ed pr pl pz pg lv mc md iw e f w ik ke kf kw st lg := by
  obtain ⟨hc, hM, hG, hHC, hHM, hS, hT, hX, hF1, hF2, hw, hK⟩ := H
  have hl24 := hG.1
  refine ⟨nI G.length, nI G.length, ?_, ?_, rfl, G, hs, L, hc, hM, hG, hHC, hHM, hS, hT, hX, hF1, hF2, hw, hK⟩
  · show some count = _
    rw [hc.1]
  · show some rules = _
    rw [hM.1]
theorem k_leftSide (H : ER G hs L codes count sc sn nw sz E F W E0 F0 W0 se ps lo cf fc fd fl c h l pk key rules lefts sizes rights ed pr pl pz pg lv mc md iw e f w ik ke kf kw st lg)  (x1 : Int32) {N : Nat} (hN : 2000 < N) : ∃ o o', fX11_leftSide codes count x1 = some o ∧ fX12_leftSide rules lefts x1 = some o' ∧ o = o' ∧ ∃ G' hs' L', ER G' hs' L' codes count sc sn nw sz E F W E0 F0 W0 se ps lo cf fc fd fl c h l pk key rules lefts sizes rights ed pr pl pz pg lv mc md iw e f w ik ke kf kw st lg := by
  obtain ⟨hc, hM, hG, hHC, hHM, hS, hT, hX, hF1, hF2, hw, hK⟩ := H
  have hl24 := hG.1
  refine ⟨ruI x1 G.length (fun p => nI (gp G p).1), ruI x1 G.length (fun p => nI (gp G p).1), ?_, ?_, rfl, G, hs, L, hc, hM, hG, hHC, hHM, hS, hT, hX, hF1, hF2, hw, hK⟩
  · simp only [fX11_leftSide, show fX6_has count x1 = some (b01 (inI x1 G.length)) by rw [hc.1]; exact c_has x1 (by omega), obs, jn_]
    rcases inI_tf x1 G.length with h | h
    · obtain ⟨p, hp, rfl⟩ := inI_of (by omega) h
      rw [h, if_neg (by decide), ag_ok (show p < 24 by omega), hc.2 p hp]
      simp only [obs, c_leftOf (okG_gp hG hp)]
      rw [ruI_in hp (by omega)]
    · rw [h, if_pos (by rfl), ruI_out h]
  · simp only [fX12_leftSide, show fX12_isRule rules x1 = some (b01 (inI x1 G.length)) by rw [hM.1]; exact m_isRule x1 (by omega), obs, jn_]
    rcases inI_tf x1 G.length with h | h
    · obtain ⟨p, hp, rfl⟩ := inI_of (by omega) h
      rw [h, if_neg (by decide), ag_ok (show p < 24 by omega)]
      simp only [obs, (hM.2 p hp).1]
      rw [ruI_in hp (by omega)]
    · rw [h, if_pos (by rfl), ruI_out h]
theorem k_rightLength (H : ER G hs L codes count sc sn nw sz E F W E0 F0 W0 se ps lo cf fc fd fl c h l pk key rules lefts sizes rights ed pr pl pz pg lv mc md iw e f w ik ke kf kw st lg)  (x1 : Int32) {N : Nat} (hN : 2000 < N) : ∃ o o', fX11_rightLength codes count x1 = some o ∧ fX12_rightLength rules sizes x1 = some o' ∧ o = o' ∧ ∃ G' hs' L', ER G' hs' L' codes count sc sn nw sz E F W E0 F0 W0 se ps lo cf fc fd fl c h l pk key rules lefts sizes rights ed pr pl pz pg lv mc md iw e f w ik ke kf kw st lg := by
  obtain ⟨hc, hM, hG, hHC, hHM, hS, hT, hX, hF1, hF2, hw, hK⟩ := H
  have hl24 := hG.1
  refine ⟨ruI x1 G.length (fun p => nI (gp G p).2.length), ruI x1 G.length (fun p => nI (gp G p).2.length), ?_, ?_, rfl, G, hs, L, hc, hM, hG, hHC, hHM, hS, hT, hX, hF1, hF2, hw, hK⟩
  · simp only [fX11_rightLength, show fX6_has count x1 = some (b01 (inI x1 G.length)) by rw [hc.1]; exact c_has x1 (by omega), obs, jn_]
    rcases inI_tf x1 G.length with h | h
    · obtain ⟨p, hp, rfl⟩ := inI_of (by omega) h
      rw [h, if_neg (by decide), ag_ok (show p < 24 by omega), hc.2 p hp]
      simp only [obs, c_lengthOf (okG_gp hG hp)]
      rw [ruI_in hp (by omega)]
    · rw [h, if_pos (by rfl), ruI_out h]
  · simp only [fX12_rightLength, show fX12_isRule rules x1 = some (b01 (inI x1 G.length)) by rw [hM.1]; exact m_isRule x1 (by omega), obs, jn_]
    rcases inI_tf x1 G.length with h | h
    · obtain ⟨p, hp, rfl⟩ := inI_of (by omega) h
      rw [h, if_neg (by decide), ag_ok (show p < 24 by omega)]
      simp only [obs, (hM.2 p hp).2.1]
      rw [ruI_in hp (by omega)]
    · rw [h, if_pos (by rfl), ruI_out h]
theorem k_rightSymbol (H : ER G hs L codes count sc sn nw sz E F W E0 F0 W0 se ps lo cf fc fd fl c h l pk key rules lefts sizes rights ed pr pl pz pg lv mc md iw e f w ik ke kf kw st lg)  (x1 x2 : Int32) {N : Nat} (hN : 2000 < N) : ∃ o o', fX11_rightSymbol codes count x1 x2 = some o ∧ fX12_rightSymbol rules sizes rights x1 x2 = some o' ∧ o = o' ∧ ∃ G' hs' L', ER G' hs' L' codes count sc sn nw sz E F W E0 F0 W0 se ps lo cf fc fd fl c h l pk key rules lefts sizes rights ed pr pl pz pg lv mc md iw e f w ik ke kf kw st lg := by
  obtain ⟨hc, hM, hG, hHC, hHM, hS, hT, hX, hF1, hF2, hw, hK⟩ := H
  have hl24 := hG.1
  refine ⟨ruI x1 G.length (fun p => ruI x2 (gp G p).2.length (fun i => nI (sy (gp G p).2 i))), ruI x1 G.length (fun p => ruI x2 (gp G p).2.length (fun i => nI (sy (gp G p).2 i))), ?_, ?_, rfl, G, hs, L, hc, hM, hG, hHC, hHM, hS, hT, hX, hF1, hF2, hw, hK⟩
  · simp only [fX11_rightSymbol, show fX6_has count x1 = some (b01 (inI x1 G.length)) by rw [hc.1]; exact c_has x1 (by omega), obs, jn_]
    rcases inI_tf x1 G.length with h | h
    · obtain ⟨p, hp, rfl⟩ := inI_of (by omega) h
      have hq := okG_gp hG hp
      have h5 := hq.2.1
      rw [h, if_neg (by decide), ag_ok (show p < 24 by omega), hc.2 p hp, ruI_in hp (by omega)]
      simp only [obs, c_lengthOf hq]
      rcases inI_tf x2 (gp G p).2.length with h2 | h2
      · obtain ⟨i, hi, rfl⟩ := inI_of (by omega) h2
        rw [if_neg (nI_pos (by omega)), if_pos (nI_lt hi (by omega)), c_symbolOf hq hi, ruI_in hi (by omega)]
        rfl
      · rw [ruI_out h2]
        by_cases h0 : x2 < 0
        · rw [if_pos h0]
        · rw [if_neg h0, if_neg (fun hlt => by
            rcases inI_not (by omega) (show ¬ inI x2 (gp G p).2.length = true by rw [h2]; decide) with h3 | h3
            · exact h0 h3
            · exact absurd (Int32.lt_of_lt_of_le hlt h3) Int32.lt_irrefl)]
    · rw [h, if_pos (by rfl), ruI_out h]
  · simp only [fX12_rightSymbol, show fX12_isRule rules x1 = some (b01 (inI x1 G.length)) by rw [hM.1]; exact m_isRule x1 (by omega), obs, jn_]
    rcases inI_tf x1 G.length with h | h
    · obtain ⟨p, hp, rfl⟩ := inI_of (by omega) h
      have h5 := (okG_gp hG hp).2.1
      rw [h, if_neg (by decide), ag_ok (show p < 24 by omega), ruI_in hp (by omega)]
      simp only [obs, (hM.2 p hp).2.1, m_in x2 (show (gp G p).2.length < 2 ^ 30 by omega)]
      rcases inI_tf x2 (gp G p).2.length with h2 | h2
      · obtain ⟨i, hi, rfl⟩ := inI_of (by omega) h2
        rw [h2, if_neg (by decide), m_symbol hM hG hp hi, ruI_in hi (by omega)]
        rfl
      · rw [h2, if_pos (by rfl), ruI_out h2]
    · rw [h, if_pos (by rfl), ruI_out h]
theorem k_nullable (H : ER G hs L codes count sc sn nw sz E F W E0 F0 W0 se ps lo cf fc fd fl c h l pk key rules lefts sizes rights ed pr pl pz pg lv mc md iw e f w ik ke kf kw st lg) (tr : Nat → Int32) (tl : Int32) (x1 : Int32) {N : Nat} (hN : 2000 < N) : ∃ o o', fX11_nullable E x1 = some o ∧ fX12_nullable N rules lefts sizes rights iw e f w st lg tr tl x1 = some o' ∧ o = o'.1 ∧ ∃ G' hs' L', ER G' hs' L' codes count sc sn nw sz E F W E0 F0 W0 se ps lo cf fc fd fl c h l pk key rules lefts sizes rights ed pr pl pz pg lv mc md o'.2.1 o'.2.2.1 o'.2.2.2.1 o'.2.2.2.2.1 ik ke kf kw o'.2.2.2.2.2.1 o'.2.2.2.2.2.2.1 := by
  obtain ⟨f', w', st', lg', tr', tl', v, m1, q1, hE⟩ := ER_works H tr tl hN
  obtain ⟨hc, hM, hG, hHC, hHM, hS, hT, hX, hF1, hF2, hw, hK⟩ := H
  have hl24 := hG.1
  refine ⟨nmI x1 (fun n => b01 (tb E n)), (nmI x1 (fun n => b01 (tb E n)), 1, E, f', w', st', lg', tr', tl'), ?_, ?_, rfl, G, hs, L, hE⟩
  · simp only [fX11_nullable, c_isNt, obs, jn_]
    rcases inI_tf x1 8 with h | h
    · obtain ⟨n, hn, rfl⟩ := inI_of (by decide) h
      rw [h, if_neg (by decide), c_bit, nmI_in hn]
      rfl
    · rw [h, if_pos (by rfl), nmI_out h]
  · simp only [fX12_nullable, m1, bd8, m_isName, obs, jn_]
    rcases inI_tf x1 8 with h | h
    · obtain ⟨n, hn, rfl⟩ := inI_of (by decide) h
      rw [h, if_neg (by decide), bit01, nmI_in hn]
    · rw [h, if_pos (by rfl), nmI_out h]
theorem k_firstSet (H : ER G hs L codes count sc sn nw sz E F W E0 F0 W0 se ps lo cf fc fd fl c h l pk key rules lefts sizes rights ed pr pl pz pg lv mc md iw e f w ik ke kf kw st lg) (tr : Nat → Int32) (tl : Int32) (x1 : Int32) {N : Nat} (hN : 2000 < N) : ∃ o o', fX11_firstSet F x1 = some o ∧ fX12_firstSet N rules lefts sizes rights iw e f w st lg tr tl x1 = some o' ∧ o = o'.1 ∧ ∃ G' hs' L', ER G' hs' L' codes count sc sn nw sz E F W E0 F0 W0 se ps lo cf fc fd fl c h l pk key rules lefts sizes rights ed pr pl pz pg lv mc md o'.2.1 o'.2.2.1 o'.2.2.2.1 o'.2.2.2.2.1 ik ke kf kw o'.2.2.2.2.2.1 o'.2.2.2.2.2.2.1 := by
  obtain ⟨f', w', st', lg', tr', tl', v, m1, q1, hE⟩ := ER_works H tr tl hN
  obtain ⟨hc, hM, hG, hHC, hHM, hS, hT, hX, hF1, hF2, hw, hK⟩ := H
  have hl24 := hG.1
  refine ⟨nmI x1 F, (nmI x1 F, 1, E, f', w', st', lg', tr', tl'), ?_, ?_, rfl, G, hs, L, hE⟩
  · simp only [fX11_firstSet, c_isNt, obs, jn_]
    rcases inI_tf x1 8 with h | h
    · obtain ⟨n, hn, rfl⟩ := inI_of (by decide) h
      rw [h, if_neg (by decide), ag_ok hn, nmI_in hn]
      rfl
    · rw [h, if_pos (by rfl), nmI_out h]
  · simp only [fX12_firstSet, m1, bd8, m_isName, obs, jn_]
    rcases inI_tf x1 8 with h | h
    · obtain ⟨n, hn, rfl⟩ := inI_of (by decide) h
      rw [h, if_neg (by decide), ag_ok hn, nmI_in hn]
      simp only [obs, q1.2.1 n hn]
    · rw [h, if_pos (by rfl), nmI_out h]
theorem k_followSet (H : ER G hs L codes count sc sn nw sz E F W E0 F0 W0 se ps lo cf fc fd fl c h l pk key rules lefts sizes rights ed pr pl pz pg lv mc md iw e f w ik ke kf kw st lg) (tr : Nat → Int32) (tl : Int32) (x1 : Int32) {N : Nat} (hN : 2000 < N) : ∃ o o', fX11_followSet W x1 = some o ∧ fX12_followSet N rules lefts sizes rights iw e f w st lg tr tl x1 = some o' ∧ o = o'.1 ∧ ∃ G' hs' L', ER G' hs' L' codes count sc sn nw sz E F W E0 F0 W0 se ps lo cf fc fd fl c h l pk key rules lefts sizes rights ed pr pl pz pg lv mc md o'.2.1 o'.2.2.1 o'.2.2.2.1 o'.2.2.2.2.1 ik ke kf kw o'.2.2.2.2.2.1 o'.2.2.2.2.2.2.1 := by
  obtain ⟨f', w', st', lg', tr', tl', v, m1, q1, hE⟩ := ER_works H tr tl hN
  obtain ⟨hc, hM, hG, hHC, hHM, hS, hT, hX, hF1, hF2, hw, hK⟩ := H
  have hl24 := hG.1
  refine ⟨nmI x1 W, (nmI x1 W, 1, E, f', w', st', lg', tr', tl'), ?_, ?_, rfl, G, hs, L, hE⟩
  · simp only [fX11_followSet, c_isNt, obs, jn_]
    rcases inI_tf x1 8 with h | h
    · obtain ⟨n, hn, rfl⟩ := inI_of (by decide) h
      rw [h, if_neg (by decide), ag_ok hn, nmI_in hn]
      rfl
    · rw [h, if_pos (by rfl), nmI_out h]
  · simp only [fX12_followSet, m1, bd8, m_isName, obs, jn_]
    rcases inI_tf x1 8 with h | h
    · obtain ⟨n, hn, rfl⟩ := inI_of (by decide) h
      rw [h, if_neg (by decide), ag_ok hn, nmI_in hn]
      simp only [obs, q1.2.2.1 n hn]
    · rw [h, if_pos (by rfl), nmI_out h]
theorem k_selectSet (H : ER G hs L codes count sc sn nw sz E F W E0 F0 W0 se ps lo cf fc fd fl c h l pk key rules lefts sizes rights ed pr pl pz pg lv mc md iw e f w ik ke kf kw st lg) (tr : Nat → Int32) (tl : Int32) (x1 : Int32) {N : Nat} (hN : 2000 < N) : ∃ o o', fX11_selectSet count se x1 = some o ∧ fX12_selectSet N rules lefts sizes rights iw e f w st lg tr tl x1 = some o' ∧ o = o'.1 ∧ ∃ G' hs' L', ER G' hs' L' codes count sc sn nw sz E F W E0 F0 W0 se ps lo cf fc fd fl c h l pk key rules lefts sizes rights ed pr pl pz pg lv mc md o'.2.1 o'.2.2.1 o'.2.2.2.1 o'.2.2.2.2.1 ik ke kf kw o'.2.2.2.2.2.1 o'.2.2.2.2.2.2.1 := by
  obtain ⟨f', w', st', lg', tr', tl', v, m1, q1, hE⟩ := ER_works H tr tl hN
  obtain ⟨hc, hM, hG, hHC, hHM, hS, hT, hX, hF1, hF2, hw, hK⟩ := H
  have hl24 := hG.1
  refine ⟨ruI x1 G.length (fun p => sel E F W (gp G p)), (ruI x1 G.length (fun p => sel E F W (gp G p)), 1, E, f', w', st', lg', tr', tl'), ?_, ?_, rfl, G, hs, L, hE⟩
  · simp only [fX11_selectSet, show fX6_has count x1 = some (b01 (inI x1 G.length)) by rw [hc.1]; exact c_has x1 (by omega), obs, jn_]
    rcases inI_tf x1 G.length with h | h
    · obtain ⟨p, hp, rfl⟩ := inI_of (by omega) h
      rw [h, if_neg (by decide), ag_ok (show p < 24 by omega), hT.1.1 p (Nat.zero_le _) hp, ruI_in hp (by omega)]
      rfl
    · rw [h, if_pos (by rfl), ruI_out h]
  · simp only [fX12_selectSet, m1, bd8, show fX12_isRule rules x1 = some (b01 (inI x1 G.length)) by rw [hM.1]; exact m_isRule x1 (by omega), obs, jn_]
    rcases inI_tf x1 G.length with h | h
    · obtain ⟨p, hp, rfl⟩ := inI_of (by omega) h
      rw [h, if_neg (by decide), m_selects hM hG hp (show 5 < N by omega), ruI_in hp (by omega), sel_congr q1.2.1 q1.2.2.1 (okG_gp hG hp)]
      rfl
    · rw [h, if_pos (by rfl), ruI_out h]
theorem k_productive (H : ER G hs L codes count sc sn nw sz E F W E0 F0 W0 se ps lo cf fc fd fl c h l pk key rules lefts sizes rights ed pr pl pz pg lv mc md iw e f w ik ke kf kw st lg)  (x1 : Int32) {N : Nat} (hN : 2000 < N) : ∃ o o', fX11_productive N codes count x1 = some o ∧ fX12_productive N rules lefts sizes rights x1 = some o' ∧ o = o' ∧ ∃ G' hs' L', ER G' hs' L' codes count sc sn nw sz E F W E0 F0 W0 se ps lo cf fc fd fl c h l pk key rules lefts sizes rights ed pr pl pz pg lv mc md iw e f w ik ke kf kw st lg := by
  obtain ⟨hc, hM, hG, hHC, hHM, hS, hT, hX, hF1, hF2, hw, hK⟩ := H
  have hl24 := hG.1
  refine ⟨nmI x1 fun n => b01 (tb (foldN (fun _ => fPr G) 8 0) n), nmI x1 fun n => b01 (tb (foldN (fun _ => fPr G) 8 0) n), ?_, ?_, rfl, G, hs, L, hc, hM, hG, hHC, hHM, hS, hT, hX, hF1, hF2, hw, hK⟩
  · simp only [fX11_productive, c_isNt, obs, jn_]
    rcases inI_tf x1 8 with h | h
    · obtain ⟨n, hn, rfl⟩ := inI_of (by decide) h
      rw [h, if_neg (by decide), c_productive hc hG (show 100 < N by omega), obs, c_bit, nmI_in hn]
      rfl
    · rw [h, if_pos (by rfl), nmI_out h]
  · exact m_productive hM hG x1 (show 30 < N by omega)
theorem k_reachable (H : ER G hs L codes count sc sn nw sz E F W E0 F0 W0 se ps lo cf fc fd fl c h l pk key rules lefts sizes rights ed pr pl pz pg lv mc md iw e f w ik ke kf kw st lg)  (x1 : Int32) {N : Nat} (hN : 2000 < N) : ∃ o o', fX11_reachable N codes count x1 = some o ∧ fX12_reachable N rules lefts sizes rights x1 = some o' ∧ o = o' ∧ ∃ G' hs' L', ER G' hs' L' codes count sc sn nw sz E F W E0 F0 W0 se ps lo cf fc fd fl c h l pk key rules lefts sizes rights ed pr pl pz pg lv mc md iw e f w ik ke kf kw st lg := by
  obtain ⟨hc, hM, hG, hHC, hHM, hS, hT, hX, hF1, hF2, hw, hK⟩ := H
  have hl24 := hG.1
  refine ⟨nmI x1 fun n => b01 (tb (foldN (fun _ => fRe G) 8 1) n), nmI x1 fun n => b01 (tb (foldN (fun _ => fRe G) 8 1) n), ?_, ?_, rfl, G, hs, L, hc, hM, hG, hHC, hHM, hS, hT, hX, hF1, hF2, hw, hK⟩
  · simp only [fX11_reachable, c_isNt, obs, jn_]
    rcases inI_tf x1 8 with h | h
    · obtain ⟨n, hn, rfl⟩ := inI_of (by decide) h
      rw [h, if_neg (by decide), c_reachable hc hG (show 100 < N by omega), obs, c_bit, nmI_in hn]
      rfl
    · rw [h, if_pos (by rfl), nmI_out h]
  · exact m_reachable hM hG x1 (show 30 < N by omega)
theorem k_leftRec (H : ER G hs L codes count sc sn nw sz E F W E0 F0 W0 se ps lo cf fc fd fl c h l pk key rules lefts sizes rights ed pr pl pz pg lv mc md iw e f w ik ke kf kw st lg) (bg tr : Nat → Int32) (tl : Int32) (x1 : Int32) {N : Nat} (hN : 2000 < N) : ∃ o o', fX11_leftRecursive N codes count E bg x1 = some o ∧ fX12_leftRecursive N rules lefts sizes rights iw e f w st lg tr tl x1 = some o' ∧ o.1 = o'.1 ∧ ∃ G' hs' L', ER G' hs' L' codes count sc sn nw sz E F W E0 F0 W0 se ps lo cf fc fd fl c h l pk key rules lefts sizes rights ed pr pl pz pg lv mc md o'.2.1 o'.2.2.1 o'.2.2.2.1 o'.2.2.2.2.1 ik ke kf kw o'.2.2.2.2.2.1 o'.2.2.2.2.2.2.1 := by
  have H0 := H
  obtain ⟨hc, hM, hG, hHC, hHM, hS, hT, hX, hF1, hF2, hw, hK⟩ := H
  have hl24 := hG.1
  rcases inI_tf x1 8 with h | h
  · obtain ⟨f', w', st', lg', tr', tl', v, m1, q1, hE⟩ := ER_works H0 tr tl hN
    obtain ⟨n, hn, rfl⟩ := inI_of (by decide) h
    obtain ⟨S, b', e1, e2⟩ := c_leftRec hc hG E bg (show 30 < N by omega)
    refine ⟨(b01 (tb (SL G E n) n), b'), (b01 (tb (SL G E n) n), 1, E, f', w', st', lg', tr', tl'), ?_, ?_, rfl, G, hs, L, hE⟩
    · simp only [fX11_leftRecursive, c_isNt, h, obs, jn2]
      rw [if_neg (by decide), e1]
      simp only [bd2, obs, c_bit, e2 n hn]
    · simp only [fX12_leftRecursive, m_isName, h, obs, jn_]
      rw [if_neg (by decide), m1]
      simp only [bd8, obs]
      rw [m_lrLoops hM hG E hn (show 30 < N by omega)]
      simp only [bit01]
  · refine ⟨(-1, bg), (-1, iw, e, f, w, st, lg, tr, tl), ?_, ?_, rfl, G, hs, L, H0⟩
    · simp only [fX11_leftRecursive, c_isNt, h, obs, jn2]
      rw [if_pos (by rfl)]
    · simp only [fX12_leftRecursive, m_isName, h, obs]
      rw [if_pos (by rfl)]
theorem k_table (H : ER G hs L codes count sc sn nw sz E F W E0 F0 W0 se ps lo cf fc fd fl c h l pk key rules lefts sizes rights ed pr pl pz pg lv mc md iw e f w ik ke kf kw st lg) (tr : Nat → Int32) (tl : Int32) (x1 x2 : Int32) {N : Nat} (hN : 2000 < N) : ∃ o o', fX11_tableEntry ps lo x1 x2 = some o ∧ fX12_tableEntry N rules lefts sizes rights iw e f w st lg tr tl x1 x2 = some o' ∧ o = o'.1 ∧ ∃ G' hs' L', ER G' hs' L' codes count sc sn nw sz E F W E0 F0 W0 se ps lo cf fc fd fl c h l pk key rules lefts sizes rights ed pr pl pz pg lv mc md o'.2.1 o'.2.2.1 o'.2.2.2.1 o'.2.2.2.2.1 ik ke kf kw o'.2.2.2.2.2.1 o'.2.2.2.2.2.2.1 := by
  obtain ⟨f', w', st', lg', tr', tl', v, m1, q1, hE⟩ := ER_works H tr tl hN
  obtain ⟨hc, hM, hG, hHC, hHM, hS, hT, hX, hF1, hF2, hw, hK⟩ := H
  have hl24 := hG.1
  refine ⟨if inI x1 8 = true ∧ inI x2 9 = true then oE ((List.range' 0 G.length).find? (po G E F W x1.toNatClampNeg x2.toNatClampNeg)) else -1, (if inI x1 8 = true ∧ inI x2 9 = true then oE ((List.range' 0 G.length).find? (po G E F W x1.toNatClampNeg x2.toNatClampNeg)) else -1, 1, E, f', w', st', lg', tr', tl'), ?_, ?_, rfl, G, hs, L, hE⟩
  · simp only [fX11_tableEntry, c_isNt, obs, jn_]
    rcases inI_tf x1 8 with h | h
    · obtain ⟨n, hn, rfl⟩ := inI_of (by decide) h
      rw [h, if_neg (by decide)]
      rcases inI_tf x2 9 with h2 | h2
      · obtain ⟨t, ht, rfl⟩ := inI_of (by decide) h2
        rw [if_neg (nI_pos (by omega)), if_pos (show nI t ≤ 8 from nI_le (b := 8) (by omega) (by decide)), c_entry hG hT.1 hn ht, if_pos ⟨rfl, h2⟩, nI_clamp (by omega), nI_clamp (by omega)]
        rfl
      · have h2' : ¬ inI x2 9 = true := by rw [h2]; decide
        rw [h2, if_neg (show ¬ (true = true ∧ false = true) by decide)]
        rcases inI_not (by decide) h2' with h3 | h3
        · rw [if_pos h3]
        · by_cases h0 : x2 < 0
          · rw [if_pos h0]
          · rw [if_neg h0, if_neg (fun hle => by have := Int32.le_trans h3 hle; exact absurd this (by decide))]
    · rw [h, if_pos (by rfl), if_neg (fun hh => absurd hh.1 (by decide))]
  · have e9 : (nI 9 : Int32) - 1 = 8 := by decide
    have h9 := m_in x2 (n := 9) (by decide)
    rw [e9] at h9
    simp only [fX12_tableEntry, m1, bd8, m_isName, obs, jn_, h9]
    rcases inI_tf x1 8 with h | h
    · obtain ⟨n, hn, rfl⟩ := inI_of (by decide) h
      rw [h, if_neg (by decide)]
      rcases inI_tf x2 9 with h2 | h2
      · obtain ⟨t, ht, rfl⟩ := inI_of (by decide) h2
        rw [h2, if_neg (by decide), m_entry hM hG hn (show 30 < N by omega), if_pos ⟨rfl, rfl⟩, nI_clamp (by omega), nI_clamp (by omega), po_congr hG q1.2.1 q1.2.2.1]
        rfl
      · rw [h2, if_pos (by rfl), if_neg (fun hh => absurd hh.2 (by decide))]
    · rw [h, if_pos (by rfl), if_neg (fun hh => absurd hh.1 (by decide))]
theorem k_levels (H : ER G hs L codes count sc sn nw sz E F W E0 F0 W0 se ps lo cf fc fd fl c h l pk key rules lefts sizes rights ed pr pl pz pg lv mc md iw e f w ik ke kf kw st lg)   {N : Nat} (hN : 2000 < N) : ∃ o o', fX11_failureLevels fl = some o ∧ fX12_failureLevels lv = some o' ∧ o = o' ∧ ∃ G' hs' L', ER G' hs' L' codes count sc sn nw sz E F W E0 F0 W0 se ps lo cf fc fd fl c h l pk key rules lefts sizes rights ed pr pl pz pg lv mc md iw e f w ik ke kf kw st lg := by
  obtain ⟨hc, hM, hG, hHC, hHM, hS, hT, hX, hF1, hF2, hw, hK⟩ := H
  have hl24 := hG.1
  refine ⟨nI L.length, nI L.length, ?_, ?_, rfl, G, hs, L, hc, hM, hG, hHC, hHM, hS, hT, hX, hF1, hF2, hw, hK⟩
  · show some fl = _
    rw [hF1.1]
  · show some lv = _
    rw [hF2.1]
theorem k_code (H : ER G hs L codes count sc sn nw sz E F W E0 F0 W0 se ps lo cf fc fd fl c h l pk key rules lefts sizes rights ed pr pl pz pg lv mc md iw e f w ik ke kf kw st lg)  (x1 : Int32) {N : Nat} (hN : 2000 < N) : ∃ o o', fX11_failureCode fc fl x1 = some o ∧ fX12_failureCode lv mc x1 = some o' ∧ o = o' ∧ ∃ G' hs' L', ER G' hs' L' codes count sc sn nw sz E F W E0 F0 W0 se ps lo cf fc fd fl c h l pk key rules lefts sizes rights ed pr pl pz pg lv mc md iw e f w ik ke kf kw st lg := by
  obtain ⟨hc, hM, hG, hHC, hHM, hS, hT, hX, hF1, hF2, hw, hK⟩ := H
  have hl24 := hG.1
  refine ⟨aFc L x1, aFc L x1, ?_, ?_, rfl, G, hs, L, hc, hM, hG, hHC, hHM, hS, hT, hX, hF1, hF2, hw, hK⟩
  · exact (c_failure hF1 x1).1
  · exact (m_failure hF2 x1).1
theorem k_detail (H : ER G hs L codes count sc sn nw sz E F W E0 F0 W0 se ps lo cf fc fd fl c h l pk key rules lefts sizes rights ed pr pl pz pg lv mc md iw e f w ik ke kf kw st lg)  (x1 : Int32) {N : Nat} (hN : 2000 < N) : ∃ o o', fX11_failureDetail fd fl x1 = some o ∧ fX12_failureDetail lv md x1 = some o' ∧ o = o' ∧ ∃ G' hs' L', ER G' hs' L' codes count sc sn nw sz E F W E0 F0 W0 se ps lo cf fc fd fl c h l pk key rules lefts sizes rights ed pr pl pz pg lv mc md iw e f w ik ke kf kw st lg := by
  obtain ⟨hc, hM, hG, hHC, hHM, hS, hT, hX, hF1, hF2, hw, hK⟩ := H
  have hl24 := hG.1
  refine ⟨aFd L x1, aFd L x1, ?_, ?_, rfl, G, hs, L, hc, hM, hG, hHC, hHM, hS, hT, hX, hF1, hF2, hw, hK⟩
  · exact (c_failure hF1 x1).2
  · exact (m_failure hF2 x1).2
end RD
