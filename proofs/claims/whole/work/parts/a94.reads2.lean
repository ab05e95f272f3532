/-! THE CALLS changedNonterminals, shortestLength, shortestTerminal, conflictCount, conflict, conflictKind, check -/
theorem pcR_congr {b c : Nat → Bool} : ∀ n, (∀ i, i < n → b i = c i) → pcR b n = pcR c n
  | 0, _ => rfl
  | n + 1, h => by
    simp only [pcR]
    rw [pcR_congr n (fun i hi => h i (by omega)), h n (by omega)]
theorem pcR_none {b : Nat → Bool} : ∀ n, (∀ i, i < n → b i = false) → pcR b n = 0
  | 0, _ => rfl
  | n + 1, h => by
    simp only [pcR]
    rw [pcR_none n (fun i hi => h i (by omega)), h n (by omega)]
    rfl
theorem b01_eq (a b : Bool) : b01 a = b01 b ↔ a = b := by cases a <;> cases b <;> simp [b01]
def dfP (E : Int32) (F W : Nat → Int32) (E0 : Int32) (F0 W0 : Nat → Int32) (n : Nat) : Bool := !(decide (tb E n = tb E0 n) && (decide (F n = F0 n) && decide (W n = W0 n)))
theorem c_diff (E : Int32) (F W : Nat → Int32) (E0 : Int32) (F0 W0 : Nat → Int32) {N : Nat} (hN : 30 < N) : fX7_differences N E F W E0 F0 W0 = some (nI (pcR (dfP E F W E0 F0 W0) 8)) := by
  simp only [fX7_differences, jn_]
  refine vlp2 (B := bX7_differences_4 E F W E0 F0 W0 fun v1 => some v1) (fun j v i => i = nI j ∧ j ≤ 8 ∧ v = nI (pcR (dfP E F W E0 F0 W0) j)) (fun r => r = some (nI (pcR (dfP E F W E0 F0 W0) 8))) 8 ?_ ?_ N 0 0 (by omega) ⟨rfl, by omega, rfl⟩
  · rintro j v i hj ⟨rfl, _, rfl⟩
    left
    refine ⟨nI (pcR (dfP E F W E0 F0 W0) (j + 1)), nI (j + 1), ⟨rfl, by omega, rfl⟩, fun rc => ?_⟩
    simp only [bX7_differences_4, jn_, c_bit, obs, lt_, nI_1]
    rw [if_neg (nleL 8 8 hj)]
    have y1 : dfP E F W E0 F0 W0 j = true → pcR (dfP E F W E0 F0 W0) (j + 1) = pcR (dfP E F W E0 F0 W0) j + 1 := fun h => by simp only [pcR]; rw [if_pos h]
    have y0 : dfP E F W E0 F0 W0 j = false → pcR (dfP E F W E0 F0 W0) (j + 1) = pcR (dfP E F W E0 F0 W0) j := fun h => by simp only [pcR]; rw [h]; rfl
    by_cases e1 : tb E j = tb E0 j
    · rw [if_pos (by rw [e1]), ag_ok hj, obs, ag_ok hj, obs]
      by_cases e2 : F j = F0 j
      · rw [if_pos e2, ag_ok hj, obs, ag_ok hj, obs]
        by_cases e3 : W j = W0 j
        · rw [if_pos e3, if_neg (by decide), y0 (by unfold dfP; simp [e1, e2, e3])]
        · rw [if_neg e3, if_pos trivial, y1 (by unfold dfP; simp [e1, e2, e3])]
      · rw [if_neg e2, if_pos trivial, y1 (by unfold dfP; simp [e1, e2])]
    · rw [if_neg (fun h => e1 ((b01_eq _ _).mp h)), if_pos trivial, y1 (by unfold dfP; simp [e1])]
  · rintro v i ⟨rfl, _, rfl⟩
    refine ⟨_, rfl, fun rc => ?_⟩
    simp only [bX7_differences_4]
    rw [if_pos (by decide)]
abbrev c9T : Type := Int32 × Int32 × Int32 × (Nat → Int32) × (Nat → Int32) × (Nat → Int32) × (Nat → Int32) × (Nat → Int32) × Int32
theorem m_diff1 (E : Int32) (F W : Nat → Int32) (E0 : Int32) (F0 W0 : Nat → Int32) (K : Int32 → Option c9T) {N : Nat} (hN : 30 < N) : itr2 (bX12_changedNonterminals_8 1 E0 F0 W0 E F W K) N 0 0 = K (nI (pcR (dfP E F W E0 F0 W0) 8)) := by
  refine vlp2 (B := bX12_changedNonterminals_8 1 E0 F0 W0 E F W K) (fun j v i => i = nI j ∧ j ≤ 8 ∧ v = nI (pcR (dfP E F W E0 F0 W0) j)) (fun r => r = K (nI (pcR (dfP E F W E0 F0 W0) 8))) 8 ?_ ?_ N 0 0 (by omega) ⟨rfl, by omega, rfl⟩
  · rintro j v i hj ⟨rfl, _, rfl⟩
    left
    refine ⟨nI (pcR (dfP E F W E0 F0 W0) (j + 1)), nI (j + 1), ⟨rfl, by omega, rfl⟩, fun rc => ?_⟩
    simp only [bX12_changedNonterminals_8, jn_, bit01, lt_, nI_1]
    rw [if_neg (nleL 8 8 hj), if_neg (by decide)]
    have y1 : dfP E F W E0 F0 W0 j = true → pcR (dfP E F W E0 F0 W0) (j + 1) = pcR (dfP E F W E0 F0 W0) j + 1 := fun h => by simp only [pcR]; rw [if_pos h]
    have y0 : dfP E F W E0 F0 W0 j = false → pcR (dfP E F W E0 F0 W0) (j + 1) = pcR (dfP E F W E0 F0 W0) j := fun h => by simp only [pcR]; rw [h]; rfl
    by_cases e1 : tb E j = tb E0 j
    · rw [if_pos (by rw [e1]), ag_ok hj, obs, ag_ok hj, obs]
      by_cases e2 : F j = F0 j
      · rw [if_pos e2, ag_ok hj, obs, ag_ok hj, obs]
        by_cases e3 : W j = W0 j
        · rw [if_pos e3, y0 (by unfold dfP; simp [e1, e2, e3]), Int32.add_zero]
        · rw [if_neg e3, y1 (by unfold dfP; simp [e1, e2, e3])]
      · rw [if_neg e2, y1 (by unfold dfP; simp [e1, e2])]
    · rw [if_neg (fun h => e1 ((b01_eq _ _).mp h)), y1 (by unfold dfP; simp [e1])]
  · rintro v i ⟨rfl, _, rfl⟩
    refine ⟨_, rfl, fun rc => ?_⟩
    simp only [bX12_changedNonterminals_8]
    rw [if_pos (by decide)]
theorem m_diff0 (E : Int32) (F W : Nat → Int32) (E0 : Int32) (F0 W0 : Nat → Int32) (K : Int32 → Option c9T) {N : Nat} (hN : 30 < N) : itr2 (bX12_changedNonterminals_8 0 E0 F0 W0 E F W K) N 0 0 = K 0 := by
  obtain ⟨M, rfl⟩ : ∃ M, N = M + 1 := ⟨N - 1, by omega⟩
  rw [itr2_S]
  simp only [bX12_changedNonterminals_8]
  rw [if_neg (by decide), if_pos trivial]
theorem m_inL (x : Int32) {o : wO} (ho : okW o) : fX12_in x 0 (lnI o - 1) = some (b01 (match o with | none => false | some u => inI x u.length)) := by
  cases o with
  | some u =>
    have := ok40 ho
    exact m_in x (by omega)
  | none =>
    have e : lnI none - 1 = (-2 : Int32) := by decide
    rw [e]
    simp only [fX12_in, jn_, gz]
    by_cases h0 : x < 0
    · rw [if_pos h0]; rfl
    · rw [if_neg h0, if_pos (by
        obtain ⟨i, hi, rfl⟩ := nI_of h0
        exact Int32.lt_of_lt_of_le (show (-2 : Int32) < 0 by decide) (nI_le (a := 0) (Nat.zero_le _) hi))]
      rfl
theorem m_lnRd {o : wO} (ho : okW o) {ρ : Type} (A B : Option ρ) : (if (0 : Int32) ≤ lnI o then A else B) = match o with | none => B | some _ => A := by
  cases o with
  | some u =>
    have := ok40 ho
    rw [if_pos (show (0 : Int32) ≤ lnI (some u) from nI_le (a := 0) (Nat.zero_le _) (by omega))]
  | none => rw [if_neg (show ¬ (0 : Int32) ≤ lnI none by decide)]
theorem m_chRd {strings longs : Nat → Int32} {s : Nat} {x : wW} (hS : SS strings longs s x.1) (hs : s < 32) (k : Int32) {ρ : Type} (K : Int32 → Option ρ) : ((ag longs 32 (nI s)).bind fun x23 => (fX12_in k 0 (x23 - (1 : Int32))).bind fun x24 => if x24 = 0 then K (-2) else ((ag strings 1280 (((40 : Int32) * nI s) + k)).bind fun x27 => K x27)) = K (wtI x.1 k) := by
  rw [ag_ok hs, obs, hS.1, m_inL k x.2, obs]
  obtain ⟨o, ho⟩ := x
  cases o with
  | none => rfl
  | some u =>
    have h40 := ok40 ho
    show (if b01 (inI k u.length) = 0 then _ else _) = K (if inI k u.length = true then nI (sy u k.toNatClampNeg) else -2)
    rcases inI_tf k u.length with h | h
    · obtain ⟨j, hj, rfl⟩ := inI_of (by omega) h
      have e40 : (40 : Int32) = nI 40 := rfl
      rw [h, if_neg (by decide), e40, pk_mul, nI_add, ag_ok (show 40 * s + j < 1280 by omega), obs, hS.2 u rfl j hj, if_pos rfl, nI_clamp (by omega)]
    · rw [h, if_pos (by rfl), if_neg (by decide)]
theorem m_lnRd2 {strings longs : Nat → Int32} {s : Nat} {x : wW} (hS : SS strings longs s x.1) (hs : s < 32) {ρ : Type} (K : Int32 → Option ρ) : ((ag longs 32 (nI s)).bind fun x23 => if 0 ≤ x23 then ((ag longs 32 (nI s)).bind fun x26 => K x26) else K (-2)) = K (wlI x.1) := by
  rw [ag_ok hs, obs, obs, hS.1, m_lnRd x.2]
  obtain ⟨o, ho⟩ := x
  cases o with
  | none => rfl
  | some u => rfl
theorem plain_uniq {G : List gP} {v w : vW} (h1 : PlainOK G v) (h2 : PlainOK G w) : ∀ s, s < 8 → v s = w s := least_uniq w0_9 h1.1 h1.2 h2.1 h2.2
theorem c_shortest {codes : Nat → Int32} {count : Int32} {G : List gP} (hc : RC codes count G) (hG : okG G) {E : Int32} {c : Nat → Int32} {h l : Nat → Int64} {pk key : Int32} (hx : ExI G E c h l pk key) {n : Nat} (hn : n < 8) {N : Nat} (hN : 2000 < N) : ∃ (o : wsT) (ω pv : vW), fX0_shortestWord N codes count c h l pk (nI n) = some (nI (10 + n), o.1, o.2.1, o.2.2, 1) ∧ WS w0 362 o.1 o.2.1 o.2.2 ω ∧ ω (10 + n) = pv n ∧ PlainOK G pv ∧ ExI G E o.1 o.2.1 o.2.2 1 key := by
  obtain ⟨o, ω, pv, e, hP, hI⟩ := c_plainKnown hc hG hx hN
  refine ⟨o, ω, pv, ?_, hP.1, hP.2.1.2 n hn, hP.2.2.2, hI⟩
  simp only [fX0_shortestWord, e, bd4, obs]
  rw [n10, nI_add]
theorem CL_mem2 {G : List gP} {E : Int32} {F W : Nat → Int32} {y : Nat × Nat × Nat} (h : y ∈ CL G E F W) : (gp G y.2.1).1 = y.1 / 9 ∧ (gp G y.2.2).1 = y.1 / 9 := by
  unfold CL CLf CP CPf PLq at h
  simp only [List.mem_flatMap, List.mem_map, List.mem_filter, List.mem_range'_1] at h
  obtain ⟨c, hc, ⟨p, q⟩, ⟨p', hp', q', hq', e⟩, rfl⟩ := h
  injection e with e1 e2
  subst e1 e2
  split at hq'
  · rename_i hp
    rw [List.mem_filter, List.mem_range'_1] at hq'
    exact ⟨(po_eq.mp hp).1, (po_eq.mp hq'.2).1⟩
  · exact absurd hq' (by simp)
section RE
variable {codes : Nat → Int32} {count : Int32} {sc : Nat → Nat → Int32} {sn : Nat → Int32} {nw sz E : Int32} {F W : Nat → Int32} {E0 : Int32} {F0 W0 se ps lo : Nat → Int32} {cf : Int32} {fc fd : Nat → Int32} {fl : Int32} {c : Nat → Int32} {h l : Nat → Int64} {pk key rules : Int32} {lefts sizes rights : Nat → Int32} {ed : Int32} {pr pl pz pg : Nat → Int32} {lv : Int32} {mc md : Nat → Int32} {iw e : Int32} {f w : Nat → Int32} {ik ke : Int32} {kf kw st lg : Nat → Int32} {G : List gP} {hs : List (List gP)} {L : List (Int32 × Int32)}
theorem k_changed (H : ER G hs L codes count sc sn nw sz E F W E0 F0 W0 se ps lo cf fc fd fl c h l pk key rules lefts sizes rights ed pr pl pz pg lv mc md iw e f w ik ke kf kw st lg) (tr : Nat → Int32) (tl : Int32)  {N : Nat} (hN : 2000 < N) : ∃ o o', fX11_changedNonterminals N E F W E0 F0 W0 = some o ∧ fX12_changedNonterminals N rules lefts sizes rights iw e f w ik ke kf kw st lg tr tl = some o' ∧ o = o'.1 ∧ ∃ G' hs' L', ER G' hs' L' codes count sc sn nw sz E F W E0 F0 W0 se ps lo cf fc fd fl c h l pk key rules lefts sizes rights ed pr pl pz pg lv mc md o'.2.1 o'.2.2.1 o'.2.2.2.1 o'.2.2.2.2.1 ik ke kf kw o'.2.2.2.2.2.1 o'.2.2.2.2.2.2.1 := by
  obtain ⟨f', w', st', lg', tr', tl', v, m1, q1, hE⟩ := ER_works H tr tl hN
  obtain ⟨hc, hM, hG, hHC, hHM, hS, hT, hX, hF1, hF2, hw, hK⟩ := H
  have hl24 := hG.1
  refine ⟨nI (pcR (dfP E F W E0 F0 W0) 8), (nI (pcR (dfP E F W E0 F0 W0) 8), 1, E, f', w', st', lg', tr', tl'), ?_, ?_, rfl, G, hs, L, hE⟩
  · simp only [fX11_changedNonterminals, c_diff E F W E0 F0 W0 (show 30 < N by omega), obs]
  · simp only [fX12_changedNonterminals, m1, bd8, obs, jn_]
    rcases hK with ⟨rfl, rfl, k3⟩ | ⟨rfl, rfl, k3⟩
    · rw [m_diff1 _ _ _ _ _ _ _ (show 30 < N by omega), pcR_congr 8 (c := dfP E F W ke F0 W0) (fun i hi => by unfold dfP; rw [q1.2.1 i hi, q1.2.2.1 i hi, (k3 i hi).1, (k3 i hi).2])]
    · rw [m_diff0 _ _ _ _ _ _ _ (show 30 < N by omega), pcR_none 8 (fun i hi => by unfold dfP; rw [(k3 i hi).1, (k3 i hi).2]; simp)]
      rfl
theorem k_shLen (H : ER G hs L codes count sc sn nw sz E F W E0 F0 W0 se ps lo cf fc fd fl c h l pk key rules lefts sizes rights ed pr pl pz pg lv mc md iw e f w ik ke kf kw st lg) (tr : Nat → Int32) (tl : Int32) (x1 : Int32) {N : Nat} (hN : 2000 < N) : ∃ o o', fX11_shortestLength N codes count c h l pk x1 = some o ∧ fX12_shortestLength N rules lefts sizes rights iw e f w st lg tr tl x1 = some o' ∧ o.1 = o'.1 ∧ ∃ G' hs' L', ER G' hs' L' codes count sc sn nw sz E F W E0 F0 W0 se ps lo cf fc fd fl o.2.1 o.2.2.1 o.2.2.2.1 o.2.2.2.2 key rules lefts sizes rights ed pr pl pz pg lv mc md o'.2.1 o'.2.2.1 o'.2.2.2.1 o'.2.2.2.2.1 ik ke kf kw o'.2.2.2.2.2.1 o'.2.2.2.2.2.2.1 := by
  obtain ⟨f', w', st', lg', tr', tl', v, m1, q1, hE⟩ := ER_works H tr tl hN
  obtain ⟨hc, hM, hG, hHC, hHM, hS, hT, hX, hF1, hF2, hw, hK⟩ := H
  rcases inI_tf x1 8 with hx | hx
  · obtain ⟨n, hn, rfl⟩ := inI_of (by decide) hx
    obtain ⟨o0, ω, pv, e1, R, eω, hP, hI⟩ := c_shortest hc hG hX hn hN
    have ev : pv n = v n := plain_uniq hP q1.2.2.2.2 n hn
    refine ⟨((wlI (v n).1), o0.1, o0.2.1, o0.2.2, 1), ((wlI (v n).1), 1, E, f', w', st', lg', tr', tl'), ?_, ?_, rfl, G, hs, L, hE.1, hE.2.1, hE.2.2.1, hE.2.2.2.1, hE.2.2.2.2.1, hE.2.2.2.2.2.1, hE.2.2.2.2.2.2.1, hI, hE.2.2.2.2.2.2.2.2⟩
    · simp only [fX11_shortestLength, c_isNt, hx, obs, jn5]
      rw [if_neg (by decide), e1]
      simp only [bd5, obs]
      rw [w_lengthOf w0_9 R rfl (show 10 + n < 362 by omega), obs, eω, ev]
    · simp only [fX12_shortestLength, m1, bd8, m_isName, hx, obs, jn_]
      rw [if_neg (by decide)]
      exact m_lnRd2 (q1.2.2.2.1 n (Nat.zero_le _) hn) (show n < 32 by omega) (fun v10 => some (v10, 1, E, f', w', st', lg', tr', tl'))
  · refine ⟨(-1, c, h, l, pk), (-1, 1, E, f', w', st', lg', tr', tl'), ?_, ?_, rfl, G, hs, L, hE⟩
    · simp only [fX11_shortestLength, c_isNt, hx, obs, jn5]
      rw [if_pos (by rfl)]
    · simp only [fX12_shortestLength, m1, bd8, m_isName, hx, obs, jn_]
      rw [if_pos (by rfl)]
theorem k_shTerm (H : ER G hs L codes count sc sn nw sz E F W E0 F0 W0 se ps lo cf fc fd fl c h l pk key rules lefts sizes rights ed pr pl pz pg lv mc md iw e f w ik ke kf kw st lg) (tr : Nat → Int32) (tl : Int32) (x1 x2 : Int32) {N : Nat} (hN : 2000 < N) : ∃ o o', fX11_shortestTerminal N codes count c h l pk x1 x2 = some o ∧ fX12_shortestTerminal N rules lefts sizes rights iw e f w st lg tr tl x1 x2 = some o' ∧ o.1 = o'.1 ∧ ∃ G' hs' L', ER G' hs' L' codes count sc sn nw sz E F W E0 F0 W0 se ps lo cf fc fd fl o.2.1 o.2.2.1 o.2.2.2.1 o.2.2.2.2 key rules lefts sizes rights ed pr pl pz pg lv mc md o'.2.1 o'.2.2.1 o'.2.2.2.1 o'.2.2.2.2.1 ik ke kf kw o'.2.2.2.2.2.1 o'.2.2.2.2.2.2.1 := by
  obtain ⟨f', w', st', lg', tr', tl', v, m1, q1, hE⟩ := ER_works H tr tl hN
  obtain ⟨hc, hM, hG, hHC, hHM, hS, hT, hX, hF1, hF2, hw, hK⟩ := H
  rcases inI_tf x1 8 with hx | hx
  · obtain ⟨n, hn, rfl⟩ := inI_of (by decide) hx
    obtain ⟨o0, ω, pv, e1, R, eω, hP, hI⟩ := c_shortest hc hG hX hn hN
    have ev : pv n = v n := plain_uniq hP q1.2.2.2.2 n hn
    refine ⟨((wtI (v n).1 x2), o0.1, o0.2.1, o0.2.2, 1), ((wtI (v n).1 x2), 1, E, f', w', st', lg', tr', tl'), ?_, ?_, rfl, G, hs, L, hE.1, hE.2.1, hE.2.2.1, hE.2.2.2.1, hE.2.2.2.2.1, hE.2.2.2.2.2.1, hE.2.2.2.2.2.2.1, hI, hE.2.2.2.2.2.2.2.2⟩
    · simp only [fX11_shortestTerminal, c_isNt, hx, obs, jn5]
      rw [if_neg (by decide), e1]
      simp only [bd5, obs]
      rw [w_terminalOf w0_9 R rfl (show 10 + n < 362 by omega), obs, eω, ev]
    · simp only [fX12_shortestTerminal, m1, bd8, m_isName, hx, obs, jn_]
      rw [if_neg (by decide)]
      exact m_chRd (q1.2.2.2.1 n (Nat.zero_le _) hn) (show n < 32 by omega) x2 (fun v10 => some (v10, 1, E, f', w', st', lg', tr', tl'))
  · refine ⟨(-1, c, h, l, pk), (-1, 1, E, f', w', st', lg', tr', tl'), ?_, ?_, rfl, G, hs, L, hE⟩
    · simp only [fX11_shortestTerminal, c_isNt, hx, obs, jn5]
      rw [if_pos (by rfl)]
    · simp only [fX12_shortestTerminal, m1, bd8, m_isName, hx, obs, jn_]
      rw [if_pos (by rfl)]
theorem k_confCount (H : ER G hs L codes count sc sn nw sz E F W E0 F0 W0 se ps lo cf fc fd fl c h l pk key rules lefts sizes rights ed pr pl pz pg lv mc md iw e f w ik ke kf kw st lg) (tr : Nat → Int32) (tl fn0 ft0 fp0 fq0 : Int32)  {N : Nat} (hN : 2000 < N) : ∃ o o', fX11_conflictCount cf = some o ∧ fX12_conflictCount N rules lefts sizes rights iw e f w st lg tr tl fn0 ft0 fp0 fq0 = some o' ∧ o = o'.1 ∧ ∃ G' hs' L', ER G' hs' L' codes count sc sn nw sz E F W E0 F0 W0 se ps lo cf fc fd fl c h l pk key rules lefts sizes rights ed pr pl pz pg lv mc md o'.2.1 o'.2.2.1 o'.2.2.2.1 o'.2.2.2.2.1 ik ke kf kw o'.2.2.2.2.2.1 o'.2.2.2.2.2.2.1 := by
  obtain ⟨f', w', st', lg', tr', tl', v, m1, q1, hE⟩ := ER_works H tr tl hN
  obtain ⟨hc, hM, hG, hHC, hHM, hS, hT, hX, hF1, hF2, hw, hK⟩ := H
  have ecf : cf = nI (CL G E F W).length := by rw [CL_len]; exact hT.2
  have eCL : CL G E f' w' = CL G E F W := CL_congr hG q1.2.1 q1.2.2.1
  obtain ⟨a', b', c', d', ef⟩ : ∃ a' b' c' d', fX12_conflictMany N rules lefts sizes rights E f' w' fn0 ft0 fp0 fq0 = some (nI (CL G E f' w').length, a', b', c', d') := ⟨_, _, _, _, m_conflictMany hM hG fn0 ft0 fp0 fq0 (show 30 < N by omega)⟩
  refine ⟨nI (CL G E F W).length, (nI (CL G E F W).length, 1, E, f', w', st', lg', tr', tl', a', b', c', d'), ?_, ?_, rfl, G, hs, L, hE⟩
  · show some cf = _
    rw [ecf]
  · simp only [fX12_conflictCount, m1, bd8, obs, ef, bd5, eCL]
theorem k_conflict (H : ER G hs L codes count sc sn nw sz E F W E0 F0 W0 se ps lo cf fc fd fl c h l pk key rules lefts sizes rights ed pr pl pz pg lv mc md iw e f w ik ke kf kw st lg) (tr : Nat → Int32) (tl fn0 ft0 fp0 fq0 : Int32) (x1 x2 : Int32) {N : Nat} (hN : 2000 < N) : ∃ o o', fX11_conflict N codes count se ps cf x1 x2 = some o ∧ fX12_conflict N rules lefts sizes rights iw e f w st lg tr tl fn0 ft0 fp0 fq0 x1 x2 = some o' ∧ o = o'.1 ∧ ∃ G' hs' L', ER G' hs' L' codes count sc sn nw sz E F W E0 F0 W0 se ps lo cf fc fd fl c h l pk key rules lefts sizes rights ed pr pl pz pg lv mc md o'.2.1 o'.2.2.1 o'.2.2.2.1 o'.2.2.2.2.1 ik ke kf kw o'.2.2.2.2.2.1 o'.2.2.2.2.2.2.1 := by
  obtain ⟨f', w', st', lg', tr', tl', v, m1, q1, hE⟩ := ER_works H tr tl hN
  obtain ⟨hc, hM, hG, hHC, hHM, hS, hT, hX, hF1, hF2, hw, hK⟩ := H
  have ecf : cf = nI (CL G E F W).length := by rw [CL_len]; exact hT.2
  have eCL : CL G E f' w' = CL G E F W := CL_congr hG q1.2.1 q1.2.2.1
  obtain ⟨a', b', c', d', ef⟩ := m_conflict hM hG m1 fn0 ft0 fp0 fq0 x1 x2 (show 30 < N by omega)
  refine ⟨aCf (CL G E F W) x1 x2, (aCf (CL G E F W) x1 x2, 1, E, f', w', st', lg', tr', tl', a', b', c', d'), ?_, ?_, rfl, G, hs, L, hE⟩
  · rw [ecf]
    exact c_conflict hc hG hT.1 x1 x2 (show 100 < N by omega)
  · rw [ef, eCL]
theorem k_confKind (H : ER G hs L codes count sc sn nw sz E F W E0 F0 W0 se ps lo cf fc fd fl c h l pk key rules lefts sizes rights ed pr pl pz pg lv mc md iw e f w ik ke kf kw st lg) (tr : Nat → Int32) (tl fn0 ft0 fp0 fq0 : Int32) (x1 : Int32) {N : Nat} (hN : 2000 < N) : ∃ o o', fX11_conflictKind N codes count E F se ps cf x1 = some o ∧ fX12_conflictKind N rules lefts sizes rights iw e f w st lg tr tl fn0 ft0 fp0 fq0 x1 = some o' ∧ o = o'.1 ∧ ∃ G' hs' L', ER G' hs' L' codes count sc sn nw sz E F W E0 F0 W0 se ps lo cf fc fd fl c h l pk key rules lefts sizes rights ed pr pl pz pg lv mc md o'.2.1 o'.2.2.1 o'.2.2.2.1 o'.2.2.2.2.1 ik ke kf kw o'.2.2.2.2.2.1 o'.2.2.2.2.2.2.1 := by
  obtain ⟨f', w', st', lg', tr', tl', v, m1, q1, hE⟩ := ER_works H tr tl hN
  obtain ⟨hc, hM, hG, hHC, hHM, hS, hT, hX, hF1, hF2, hw, hK⟩ := H
  have ecf : cf = nI (CL G E F W).length := by rw [CL_len]; exact hT.2
  have eCL : CL G E f' w' = CL G E F W := CL_congr hG q1.2.1 q1.2.2.1
  obtain ⟨a', b', c', d', ef⟩ := m_conflictKind hM hG m1 fn0 ft0 fp0 fq0 x1 (show 30 < N by omega)
  refine ⟨aKd G E F W x1, (aKd G E F W x1, 1, E, f', w', st', lg', tr', tl', a', b', c', d'), ?_, ?_, rfl, G, hs, L, hE⟩
  · rw [ecf]
    exact c_conflictKind hc hG hT.1 x1 (show 100 < N by omega)
  · rw [ef, aKd_congr hG q1.2.1 q1.2.2.1]
theorem k_check (H : ER G hs L codes count sc sn nw sz E F W E0 F0 W0 se ps lo cf fc fd fl c h l pk key rules lefts sizes rights ed pr pl pz pg lv mc md iw e f w ik ke kf kw st lg) (tr : Nat → Int32) (tl fn0 ft0 fp0 fq0 : Int32)  {N : Nat} (hN : 2000 < N) : ∃ o o', fX11_check N codes count E F se ps cf fc fd fl = some o ∧ fX12_check N rules lefts sizes rights lv mc md iw e f w st lg tr tl fn0 ft0 fp0 fq0 = some o' ∧ o.1 = o'.1 ∧ ∃ G' hs' L', ER G' hs' L' codes count sc sn nw sz E F W E0 F0 W0 se ps lo cf o.2.1 o.2.2.1 o.2.2.2 c h l pk key rules lefts sizes rights ed pr pl pz pg o'.2.1 o'.2.2.1 o'.2.2.2.1 o'.2.2.2.2.1 o'.2.2.2.2.2.1 o'.2.2.2.2.2.2.1 o'.2.2.2.2.2.2.2.1 ik ke kf kw o'.2.2.2.2.2.2.2.2.1 o'.2.2.2.2.2.2.2.2.2.1 := by
  obtain ⟨f', w', st', lg', tr', tl', v, m1, q1, hE⟩ := ER_works H tr tl hN
  obtain ⟨hc, hM, hG, hHC, hHM, hS, hT, hX, hF1, hF2, hw, hK⟩ := H
  have ecf : cf = nI (CL G E F W).length := by rw [CL_len]; exact hT.2
  obtain ⟨fc', fd', fl', e1, r1⟩ := c_check (E := E) (F := F) (W := W) hc hG hT.1 hF1 (show 100 < N by omega)
  obtain ⟨lv', mc', md', a', b', c', d', e2, r2⟩ := m_check hM hG hF2 m1 fn0 ft0 fp0 fq0 (show 30 < N by omega)
  rw [ckL_congr hG q1.2.1 q1.2.2.1] at r2
  rw [ckA_congr hG q1.2.1 q1.2.2.1] at e2
  refine ⟨(ckA G E F W, fc', fd', fl'), (ckA G E F W, lv', mc', md', 1, E, f', w', st', lg', tr', tl', a', b', c', d'), ?_, e2, rfl, G, hs, _, hE.1, hE.2.1, hE.2.2.1, hE.2.2.2.1, hE.2.2.2.2.1, hE.2.2.2.2.2.1, hE.2.2.2.2.2.2.1, hE.2.2.2.2.2.2.2.1, r1, r2, hE.2.2.2.2.2.2.2.2.2.2⟩
  rw [ecf]
  exact e1
end RE
