/-! THE CALLS exampleLength, exampleTerminal on both sides -/
section RX
variable {codes : Nat → Int32} {count : Int32} {sc : Nat → Nat → Int32} {sn : Nat → Int32} {nw sz E : Int32} {F W : Nat → Int32} {E0 : Int32} {F0 W0 se ps lo : Nat → Int32} {cf : Int32} {fc fd : Nat → Int32} {fl : Int32} {c : Nat → Int32} {h l : Nat → Int64} {pk key rules : Int32} {lefts sizes rights : Nat → Int32} {ed : Int32} {pr pl pz pg : Nat → Int32} {lv : Int32} {mc md : Nat → Int32} {iw e : Int32} {f w : Nat → Int32} {ik ke : Int32} {kf kw st lg : Nat → Int32} {G : List gP} {hs : List (List gP)} {L : List (Int32 × Int32)}
theorem ex_core (hc : RC codes count G) (hM : RM rules lefts sizes rights G) (hG : okG G) (hS : SetsOK G E F W) (hT : TB G E F W se ps lo cf) (hX : ExI G E c h l pk key) {f' w' st' lg' : Nat → Int32} {v : vW} (q1 : WK G E F W E f' w' st' lg' v) (tr' : Nat → Int32) (tl' : Int32) {i : Nat} {y : Nat × Nat × Nat} (hy : (CL G E F W)[i]? = some y) {wi p : Nat} (hwi : (wi = 0 ∧ p = y.2.1) ∨ (wi = 1 ∧ p = y.2.2)) {N : Nat} (hN : 2000 < N) : ∃ (o0 : wsT) (ω : vW) (st2 lg2 tr2 : Nat → Int32) (tl2 : Int32), fX11_exampleWord N codes count se ps c h l pk key (nI i) (nI wi) = some (nI ((if y.1 % 9 = 8 then 36 else 54) + 10), o0.1, o0.2.1, o0.2.2, 1, nI (p * 9 + y.1 % 9)) ∧ WS w0 362 o0.1 o0.2.1 o0.2.2 ω ∧ ExI G E o0.1 o0.2.1 o0.2.2 1 (nI (p * 9 + y.1 % 9)) ∧ fX12_example N rules lefts sizes rights E st' lg' tr' tl' (nI (y.1 / 9)) (nI (y.1 % 9)) (nI p) = some (nI (if y.1 % 9 = 8 then 24 else 16), st2, lg2, tr2, tl2) ∧ SS st2 lg2 (if y.1 % 9 = 8 then 24 else 16) (ω ((if y.1 % 9 = 8 then 36 else 54) + 10)).1 ∧ WK G E F W E f' w' st2 lg2 v := by
  have hle := CL_le (E := E) (F := F) (W := W) hG
  have hl24 := hG.1
  have hi : i < (CL G E F W).length := (List.getElem?_eq_some_iff.mp hy).1
  have hmem := List.mem_of_getElem? hy
  obtain ⟨n1, n2, n3⟩ := CL_mem hmem
  obtain ⟨n4, n5⟩ := CL_mem2 hmem
  have htk : y.1 % 9 ≤ 8 := by omega
  have hp : p < G.length := by rcases hwi with ⟨_, rfl⟩ | ⟨_, rfl⟩ <;> assumption
  have hpn : (gp G p).1 = y.1 / 9 := by rcases hwi with ⟨_, rfl⟩ | ⟨_, rfl⟩ <;> assumption
  obtain ⟨p0, p1, p2, p3⟩ := c_partOf n1 (show y.2.1 < 24 by omega) (show y.2.2 < 24 by omega)
  obtain ⟨o0, ω, pv, bv, vc, e1, x1, x2, x3⟩ := c_exampleWord hc hG hS.1 hS.2.2.2.1 hX hp htk hN
  obtain ⟨st2, lg2, tr2, tl2, bm, vm, e2, s1, s2, s3⟩ := m_example hM hG htk hp (E := E) tr' tl' q1.2.2.2.1 hN
  rw [hpn] at e2
  have upv := plain_uniq x1.2.2.2 q1.2.2.2.2
  have ubv := BegOK_uniq hG upv x2.2.1 s2
  have uv := MarkOK_uniq hG (okG_gp hG hp) upv ubv x2.2.2 s3
  refine ⟨o0, ω, st2, lg2, tr2, tl2, ?_, x1.1, x3, e2, ?_, q1.1, q1.2.1, q1.2.2.1, fun s hs0 hs8 => ?_, q1.2.2.2.2⟩
  · have hat := c_conflictAt hc hG hT.1 (i := i) (by omega) (show 100 < N by omega)
    rw [fnd_some hy] at hat
    have hpart : fX8_partOf (nI (cfI y.1 y.2.1 y.2.2)) ((2 : Int32) + nI wi) = some (nI p) := by
      rcases hwi with ⟨rfl, rfl⟩ | ⟨rfl, rfl⟩
      · exact p2
      · exact p3
    simp only [fX11_exampleWord, hat, obs, hpart, p1, e1, bd6]
  · by_cases h8 : y.1 % 9 = 8
    · rw [if_pos h8, if_pos h8]
      have a1 : ω (36 + 10) = vc 8 := (x2.1 10 (Or.inr ⟨by omega, by omega⟩)).2
      have a2 : gl v bm vm 24 = vm 8 := gl_16 (l := 8)
      have := s1 24 (Nat.zero_le _) (by omega)
      rw [a2, ← uv 8 (by omega), ← a1] at this
      exact this
    · rw [if_neg h8, if_neg h8]
      have a1 : ω (54 + 10) = vc 0 := (x2.1 10 (Or.inr ⟨by omega, by omega⟩)).1
      have a2 : gl v bm vm 16 = vm 0 := gl_16 (l := 0)
      have := s1 16 (Nat.zero_le _) (by omega)
      rw [a2, ← uv 0 (by omega), ← a1] at this
      exact this
  · have := s1 s hs0 (by omega)
    rw [gl_0 hs8] at this
    exact this
theorem CL_out {x : Int32} {n : Nat} (h : inI x n = false) : b01 (inI x n) = 0 := by rw [h]; rfl
theorem k_exLen (H : ER G hs L codes count sc sn nw sz E F W E0 F0 W0 se ps lo cf fc fd fl c h l pk key rules lefts sizes rights ed pr pl pz pg lv mc md iw e f w ik ke kf kw st lg) (tr : Nat → Int32) (tl fn0 ft0 fp0 fq0 : Int32) (z1 z2 : Int32) {N : Nat} (hN : 2000 < N) : ∃ o o', fX11_exampleLength N codes count se ps cf c h l pk key z1 z2 = some o ∧ fX12_exampleLength N rules lefts sizes rights iw e f w st lg tr tl fn0 ft0 fp0 fq0 z1 z2 = some o' ∧ o.1 = o'.1 ∧ ∃ G' hs' L', ER G' hs' L' codes count sc sn nw sz E F W E0 F0 W0 se ps lo cf fc fd fl o.2.1 o.2.2.1 o.2.2.2.1 o.2.2.2.2.1 o.2.2.2.2.2 rules lefts sizes rights ed pr pl pz pg lv mc md o'.2.1 o'.2.2.1 o'.2.2.2.1 o'.2.2.2.2.1 ik ke kf kw o'.2.2.2.2.2.1 o'.2.2.2.2.2.2.1 := by
  obtain ⟨f', w', st', lg', tr', tl', v, m1, q1, hE⟩ := ER_works H tr tl hN
  have hE0 := hE
  obtain ⟨hc, hM, hG, hHC, hHM, hS, hT, hX, hF1, hF2, hw, hK⟩ := H
  have hl24 := hG.1
  have hle := CL_le (E := E) (F := F) (W := W) hG
  have ecf : cf = nI (CL G E F W).length := by rw [CL_len]; exact hT.2
  have eCL : CL G E f' w' = CL G E F W := CL_congr hG q1.2.1 q1.2.2.1
  have hcc : fX11_isConflict cf z1 = some (b01 (inI z1 (CL G E F W).length)) := by rw [ecf]; exact c_isConflict z1 (by omega)
  have e2' : (nI 2 : Int32) - 1 = 1 := by decide
  have hin := m_in z2 (n := 2) (by decide)
  rw [e2'] at hin
  rcases m_isConflict hM hG fn0 ft0 fp0 fq0 z1 (E := E) (F := f') (W := w') (show 30 < N by omega) with ⟨h', em⟩ | ⟨i, y, rfl, hi, hy, em⟩
  · rw [eCL] at h'
    refine ⟨(-1, c, h, l, pk, key), (-1, 1, E, f', w', st', lg', tr', tl', fn0, ft0, fp0, fq0), ?_, ?_, rfl, G, hs, L, hE⟩
    · simp only [fX11_exampleLength, hcc, h', obs, jn_]
      rw [if_pos (by rfl)]
    · simp only [fX12_exampleLength, m1, bd8, obs, em, bd5, jn_]
      rw [if_pos trivial]
  · rw [eCL] at hi hy
    have hin1 : inI (nI i) (CL G E F W).length = true := inI_nI hi (by omega)
    rcases inI_tf z2 2 with h2 | h2
    · obtain ⟨wi, hwi, rfl⟩ := inI_of (by decide) h2
      obtain ⟨p, hp⟩ : ∃ p, (wi = 0 ∧ p = y.2.1) ∨ (wi = 1 ∧ p = y.2.2) := by
        have : wi = 0 ∨ wi = 1 := by omega
        rcases this with rfl | rfl
        · exact ⟨_, Or.inl ⟨rfl, rfl⟩⟩
        · exact ⟨_, Or.inr ⟨rfl, rfl⟩⟩
      obtain ⟨o0, ω, st2, lg2, tr2, tl2, x1, x2, x3, x4, x5, x6⟩ := ex_core hc hM hG hS hT hX q1 tr' tl' hy hp hN
      have hix : (if y.1 % 9 = 8 then 36 else 54) + 10 < 362 := by split <;> omega
      have hsl : (if y.1 % 9 = 8 then 24 else 16) < 32 := by split <;> omega
      refine ⟨((wlI (ω ((if y.1 % 9 = 8 then 36 else 54) + 10)).1), o0.1, o0.2.1, o0.2.2, 1, nI (p * 9 + y.1 % 9)), ((wlI (ω ((if y.1 % 9 = 8 then 36 else 54) + 10)).1), 1, E, f', w', st2, lg2, tr2, tl2, nI (y.1 / 9), nI (y.1 % 9), nI y.2.1, nI y.2.2), ?_, ?_, rfl, G, hs, L, hc, hM, hG, hHC, hHM, hS, hT, x3, hF1, hF2, Or.inr ⟨rfl, v, x6⟩, hK⟩
      · simp only [fX11_exampleLength, hcc, hin1, obs, jn_]
        rw [if_neg (by decide), if_neg (nI_pos (by omega)), if_pos (show nI wi ≤ 1 from nI_le (b := 1) (by omega) (by decide)), x1]
        simp only [bd6, obs]
        rw [w_lengthOf w0_9 x2 rfl hix, obs]
      · simp only [fX12_exampleLength, m1, bd8, obs, em, bd5, jn_]
        rw [if_neg (by decide), hin, h2, obs, if_neg (by decide)]
        have ek : ∀ (K : Int32 → Option (Int32 × Int32 × Int32 × (Nat → Int32) × (Nat → Int32) × (Nat → Int32) × (Nat → Int32) × (Nat → Int32) × Int32 × Int32 × Int32 × Int32 × Int32)), (if nI wi = 0 then K (nI y.2.1) else K (nI y.2.2)) = K (nI p) := by
          intro K
          rcases hp with ⟨rfl, rfl⟩ | ⟨rfl, rfl⟩
          · rw [if_pos (by rfl)]
          · rw [if_neg (by decide)]
        rw [ek (fun v17 => (fX12_example N rules lefts sizes rights E st' lg' tr' tl' (nI (y.1 / 9)) (nI (y.1 % 9)) v17).bind _), x4, obs]
        exact m_lnRd2 x5 hsl (fun v24 => some (v24, 1, E, f', w', st2, lg2, tr2, tl2, nI (y.1 / 9), nI (y.1 % 9), nI y.2.1, nI y.2.2))
    · refine ⟨(-1, c, h, l, pk, key), (-1, 1, E, f', w', st', lg', tr', tl', nI (y.1 / 9), nI (y.1 % 9), nI y.2.1, nI y.2.2), ?_, ?_, rfl, G, hs, L, hE⟩
      · simp only [fX11_exampleLength, hcc, hin1, obs, jn_]
        rw [if_neg (by decide)]
        rcases inI_not (by decide) (show ¬ inI z2 2 = true by rw [h2]; decide) with h3 | h3
        · rw [if_pos h3]
        · by_cases h0 : z2 < 0
          · rw [if_pos h0]
          · rw [if_neg h0, if_neg (fun hle => by have := Int32.le_trans h3 hle; exact absurd this (by decide))]
      · simp only [fX12_exampleLength, m1, bd8, obs, em, bd5, jn_]
        rw [if_neg (by decide), hin, h2, obs, if_pos (by rfl)]
theorem k_exTerm (H : ER G hs L codes count sc sn nw sz E F W E0 F0 W0 se ps lo cf fc fd fl c h l pk key rules lefts sizes rights ed pr pl pz pg lv mc md iw e f w ik ke kf kw st lg) (tr : Nat → Int32) (tl fn0 ft0 fp0 fq0 : Int32) (z1 z2 z3 : Int32) {N : Nat} (hN : 2000 < N) : ∃ o o', fX11_exampleTerminal N codes count se ps cf c h l pk key z1 z2 z3 = some o ∧ fX12_exampleTerminal N rules lefts sizes rights iw e f w st lg tr tl fn0 ft0 fp0 fq0 z1 z2 z3 = some o' ∧ o.1 = o'.1 ∧ ∃ G' hs' L', ER G' hs' L' codes count sc sn nw sz E F W E0 F0 W0 se ps lo cf fc fd fl o.2.1 o.2.2.1 o.2.2.2.1 o.2.2.2.2.1 o.2.2.2.2.2 rules lefts sizes rights ed pr pl pz pg lv mc md o'.2.1 o'.2.2.1 o'.2.2.2.1 o'.2.2.2.2.1 ik ke kf kw o'.2.2.2.2.2.1 o'.2.2.2.2.2.2.1 := by
  obtain ⟨f', w', st', lg', tr', tl', v, m1, q1, hE⟩ := ER_works H tr tl hN
  have hE0 := hE
  obtain ⟨hc, hM, hG, hHC, hHM, hS, hT, hX, hF1, hF2, hw, hK⟩ := H
  have hl24 := hG.1
  have hle := CL_le (E := E) (F := F) (W := W) hG
  have ecf : cf = nI (CL G E F W).length := by rw [CL_len]; exact hT.2
  have eCL : CL G E f' w' = CL G E F W := CL_congr hG q1.2.1 q1.2.2.1
  have hcc : fX11_isConflict cf z1 = some (b01 (inI z1 (CL G E F W).length)) := by rw [ecf]; exact c_isConflict z1 (by omega)
  have e2' : (nI 2 : Int32) - 1 = 1 := by decide
  have hin := m_in z2 (n := 2) (by decide)
  rw [e2'] at hin
  rcases m_isConflict hM hG fn0 ft0 fp0 fq0 z1 (E := E) (F := f') (W := w') (show 30 < N by omega) with ⟨h', em⟩ | ⟨i, y, rfl, hi, hy, em⟩
  · rw [eCL] at h'
    refine ⟨(-1, c, h, l, pk, key), (-1, 1, E, f', w', st', lg', tr', tl', fn0, ft0, fp0, fq0), ?_, ?_, rfl, G, hs, L, hE⟩
    · simp only [fX11_exampleTerminal, hcc, h', obs, jn_]
      rw [if_pos (by rfl)]
    · simp only [fX12_exampleTerminal, m1, bd8, obs, em, bd5, jn_]
      rw [if_pos trivial]
  · rw [eCL] at hi hy
    have hin1 : inI (nI i) (CL G E F W).length = true := inI_nI hi (by omega)
    rcases inI_tf z2 2 with h2 | h2
    · obtain ⟨wi, hwi, rfl⟩ := inI_of (by decide) h2
      obtain ⟨p, hp⟩ : ∃ p, (wi = 0 ∧ p = y.2.1) ∨ (wi = 1 ∧ p = y.2.2) := by
        have : wi = 0 ∨ wi = 1 := by omega
        rcases this with rfl | rfl
        · exact ⟨_, Or.inl ⟨rfl, rfl⟩⟩
        · exact ⟨_, Or.inr ⟨rfl, rfl⟩⟩
      obtain ⟨o0, ω, st2, lg2, tr2, tl2, x1, x2, x3, x4, x5, x6⟩ := ex_core hc hM hG hS hT hX q1 tr' tl' hy hp hN
      have hix : (if y.1 % 9 = 8 then 36 else 54) + 10 < 362 := by split <;> omega
      have hsl : (if y.1 % 9 = 8 then 24 else 16) < 32 := by split <;> omega
      refine ⟨((wtI (ω ((if y.1 % 9 = 8 then 36 else 54) + 10)).1 z3), o0.1, o0.2.1, o0.2.2, 1, nI (p * 9 + y.1 % 9)), ((wtI (ω ((if y.1 % 9 = 8 then 36 else 54) + 10)).1 z3), 1, E, f', w', st2, lg2, tr2, tl2, nI (y.1 / 9), nI (y.1 % 9), nI y.2.1, nI y.2.2), ?_, ?_, rfl, G, hs, L, hc, hM, hG, hHC, hHM, hS, hT, x3, hF1, hF2, Or.inr ⟨rfl, v, x6⟩, hK⟩
      · simp only [fX11_exampleTerminal, hcc, hin1, obs, jn_]
        rw [if_neg (by decide), if_neg (nI_pos (by omega)), if_pos (show nI wi ≤ 1 from nI_le (b := 1) (by omega) (by decide)), x1]
        simp only [bd6, obs]
        rw [w_terminalOf w0_9 x2 rfl hix, obs]
      · simp only [fX12_exampleTerminal, m1, bd8, obs, em, bd5, jn_]
        rw [if_neg (by decide), hin, h2, obs, if_neg (by decide)]
        have ek : ∀ (K : Int32 → Option (Int32 × Int32 × Int32 × (Nat → Int32) × (Nat → Int32) × (Nat → Int32) × (Nat → Int32) × (Nat → Int32) × Int32 × Int32 × Int32 × Int32 × Int32)), (if nI wi = 0 then K (nI y.2.1) else K (nI y.2.2)) = K (nI p) := by
          intro K
          rcases hp with ⟨rfl, rfl⟩ | ⟨rfl, rfl⟩
          · rw [if_pos (by rfl)]
          · rw [if_neg (by decide)]
        rw [ek (fun v17 => (fX12_example N rules lefts sizes rights E st' lg' tr' tl' (nI (y.1 / 9)) (nI (y.1 % 9)) v17).bind _), x4, obs]
        exact m_chRd x5 hsl z3 (fun v24 => some (v24, 1, E, f', w', st2, lg2, tr2, tl2, nI (y.1 / 9), nI (y.1 % 9), nI y.2.1, nI y.2.2))
    · refine ⟨(-1, c, h, l, pk, key), (-1, 1, E, f', w', st', lg', tr', tl', nI (y.1 / 9), nI (y.1 % 9), nI y.2.1, nI y.2.2), ?_, ?_, rfl, G, hs, L, hE⟩
      · simp only [fX11_exampleTerminal, hcc, hin1, obs, jn_]
        rw [if_neg (by decide)]
        rcases inI_not (by decide) (show ¬ inI z2 2 = true by rw [h2]; decide) with h3 | h3
        · rw [if_pos h3]
        · by_cases h0 : z2 < 0
          · rw [if_pos h0]
          · rw [if_neg h0, if_neg (fun hle => by have := Int32.le_trans h3 hle; exact absurd this (by decide))]
      · simp only [fX12_exampleTerminal, m1, bd8, obs, em, bd5, jn_]
        rw [if_neg (by decide), hin, h2, obs, if_pos (by rfl)]
end RX
