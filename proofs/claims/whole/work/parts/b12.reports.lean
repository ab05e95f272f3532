/-! THE PARSE: reports, the reference's loop -/
abbrev paT : Type := Int32 × Int32 × (Nat → Int32) × (Nat → Int32) × Int32 × Int32 × (Nat → Int32) × (Nat → Int32) × (Nat → Int32) × (Nat → Int32) × (Nat → Int32) × Int32 × (Nat → Int32) × (Nat → Int32) × Int32 × Int32 × Int32 × Int32 × (Nat → Int32) × Int32 × Int32 × (Nat → Int32) × (Nat → Int32)
def entN (G : List gP) (E : Int32) (F W : Nat → Int32) (n : Nat) : Nat := pcR (fun t => (enT G E F W n t).isSome) 9
def repS (G : List gP) (E : Int32) (F W : Nat → Int32) (I : List Nat) (a : Nat) : pS → List (Int32 × Int32)
  | [] => [(1, nI a), (4, nI I.length - nI a)]
  | (x, _) :: _ => if x < 10 then [(1, nI a), (2, nI x)] else [(1, nI a), (3, nI (x - 10)), if pcR (fun p => (gp G p).1 == x - 10) G.length = 0 then (5, nI (x - 10)) else (6, nI (entN G E F W (x - 10)))]
def repP (G : List gP) (E : Int32) (F W : Nat → Int32) (I : List Nat) (R : Nat × pT) : List (Int32 × Int32) := if R.1 = 2 then [(1, nI R.2.2.1), (7, nI R.2.2.2.1)] else repS G E F W I R.2.2.1 R.2.1
section PC2
variable {codes tm : Nat → Int32} {count il : Int32} {G : List gP} {E : Int32} {F W se ps lo : Nat → Int32} {I : List Nat}
theorem c_entries (hG : okG G) (hT : TBx G E F W 0 se ps lo) {n : Nat} (hn : n < 8) {N : Nat} (hN : 30 < N) : fX8_entriesOf N ps (nI n) = some (nI (entN G E F W n)) := by
  have hl := hG.1
  have e9 : nI n * (9 : Int32) = nI (n * 9) := pk_mul n 9
  simp only [fX8_entriesOf, jn_]
  refine vlp2 (B := bX8_entriesOf_4 (nI n) ps fun v => some v) (fun j v i => i = nI j ∧ j ≤ 9 ∧ v = nI (pcR (fun t => (enT G E F W n t).isSome) j)) (fun r => r = some (nI (entN G E F W n))) 9 ?_ ?_ N 0 0 (by omega) ⟨rfl, by omega, rfl⟩
  · rintro j v i hj ⟨rfl, hb, rfl⟩
    left
    have h2 := hT.2.1 n j hn hj
    have z : pcR (po G E F W n j) 0 = 0 := rfl
    rw [z, Nat.sub_zero] at h2
    have hle := pcR_le (po G E F W n j) G.length
    have hz := pcR_fst (po G E F W n j) G.length
    refine ⟨nI (pcR (fun t => (enT G E F W n t).isSome) (j + 1)), nI (j + 1), ⟨rfl, by omega, rfl⟩, fun rc => ?_⟩
    have s1 : pcR (fun t => (enT G E F W n t).isSome) (j + 1) = pcR (fun t => (enT G E F W n t).isSome) j + (if (enT G E F W n j).isSome = true then 1 else 0) := rfl
    rw [s1]
    simp only [bX8_entriesOf_4, e9, nI_add, jn_, lt_, nI_1]
    rw [if_neg (nleL 9 9 hj), ag_ok (show n * 9 + j < 72 by omega), obs, h2]
    cases he : enT G E F W n j with
    | none =>
      rw [hz.mpr he, if_pos (by decide)]
      rfl
    | some r =>
      have : pcR (po G E F W n j) G.length ≠ 0 := fun q => by
        rw [hz] at q
        have he' : (List.range' 0 G.length).find? (po G E F W n j) = some r := he
        rw [he'] at q
        simp at q
      rw [if_neg (nI_nle (by omega) (by omega))]
      rfl
  · rintro v i ⟨rfl, hb, rfl⟩
    refine ⟨_, rfl, fun rc => ?_⟩
    simp only [bX8_entriesOf_4]
    rw [if_pos (by decide)]
    rfl
theorem c_explain (hc : RC codes count G) (hG : okG G) (hT : TBx G E F W 0 se ps lo) (hil : il = nI I.length) (hI40 : I.length ≤ 40) {R : Nat × pT} (h0 : ¬ R.1 = 0) (hR : R.1 = 1 ∨ R.1 = 2) (hP : PO G I R.2) {ta ts tp th sk br : Nat → Int32} {tn dp ix sp : Int32} (hC : PC R.2 ta tn ts tp th sk br dp ix sp) (fc fd : Nat → Int32) (fl : Int32) {N : Nat} (hN : 30 < N) : ∃ fc' fd' fl', fX4_explain N codes count ps il sk dp ix sp fc fd fl (codeP R) = some (fc', fd', fl') ∧ FL (repP G E F W I R) fl' fc' fd' := by
  obtain ⟨r, s, a, st, T, D⟩ := R
  obtain ⟨p1, p2, p3, p4, p5, p6, p7⟩ := hP
  obtain ⟨c1, rfl, rfl, rfl, rfl, c6, c7⟩ := hC
  obtain ⟨l1, f1, d1, t1, r1⟩ := c_begin fl fc fd 1 (nI a)
  simp only [fX4_explain, t1, bd3, obs, jn3]
  rcases hR with h | h
  · have h' : r = 1 := h
    subst h'
    have hcode : codeP (1, s, a, st, T, D) = -5 := rfl
    rw [hcode, if_neg (by decide)]
    have hrep : repP G E F W I (1, s, a, st, T, D) = repS G E F W I a s := rfl
    rw [hrep]
    cases s with
    | nil =>
      obtain ⟨l2, f2, d2, t2, r2⟩ := c_because r1 (by simp) 4 (il - nI a)
      refine ⟨f2, d2, l2, ?_, by simp only [repS]; rw [← hil]; exact r2⟩
      rw [if_pos (by rfl), t2]
      rfl
    | cons y s =>
      obtain ⟨x, b⟩ := y
      have hx : okS x := p1 _ List.mem_cons_self
      have hx18 := okS_lt hx
      have p2' : s.length + 1 ≤ 65 := p2
      have et : fX4_top sk (nI (s.length + 1)) = some (nI x) := (c_top c1 (by omega)).1
      show ∃ fc' fd' fl', (if nI (s.length + 1) = 0 then _ else _) = _ ∧ _
      rw [if_neg (nI_ne0 (by omega) (by omega))]
      show ∃ fc' fd' fl', ((fX4_top sk (nI (s.length + 1))).bind _) = _ ∧ _
      rw [et, obs]
      by_cases h10 : x < 10
      · obtain ⟨l2, f2, d2, t2, r2⟩ := c_because r1 (by simp) 2 (nI x)
        refine ⟨f2, d2, l2, ?_, by simp only [repS, if_pos h10]; exact r2⟩
        rw [if_neg (nle10 h10)]
        show ((fX4_top sk (nI (s.length + 1))).bind _) = _
        rw [et, obs, t2]
        rfl
      · obtain ⟨l2, f2, d2, t2, r2⟩ := c_because r1 (by simp) 3 (nI (x - 10))
        have hpr := c_prodOf hc hG (show x - 10 < 8 by omega) hN
        have hle := pcR_le (fun p => (gp G p).1 == x - 10) G.length
        have hl := hG.1
        have go : ∃ fc' fd' fl', fX4_explainNoEntry N codes count ps f1 d1 l1 (nI (x - 10)) = some (fc', fd', fl') ∧ FL [(1, nI a), (3, nI (x - 10)), if pcR (fun p => (gp G p).1 == x - 10) G.length = 0 then (5, nI (x - 10)) else (6, nI (entN G E F W (x - 10)))] fl' fc' fd' := by
          simp only [fX4_explainNoEntry, t2, bd3, obs, hpr, jn3]
          by_cases hz : pcR (fun p => (gp G p).1 == x - 10) G.length = 0
          · obtain ⟨l3, f3, d3, t3, r3⟩ := c_because r2 (by simp) 5 (nI (x - 10))
            refine ⟨f3, d3, l3, ?_, by rw [if_pos hz]; exact r3⟩
            rw [hz, if_pos (by rfl), t3]
            rfl
          · obtain ⟨l3, f3, d3, t3, r3⟩ := c_because r2 (by simp) 6 (nI (entN G E F W (x - 10)))
            refine ⟨f3, d3, l3, ?_, by rw [if_neg hz]; exact r3⟩
            rw [if_neg (nI_ne0 (by omega) (by omega)), c_entries hG hT (show x - 10 < 8 by omega) hN, obs, t3]
            rfl
        obtain ⟨f3, d3, l3, t3, r3⟩ := go
        refine ⟨f3, d3, l3, ?_, by simp only [repS, if_neg h10]; exact r3⟩
        rw [if_pos (le10 h10 hx18)]
        show ((fX4_top sk (nI (s.length + 1))).bind _) = _
        rw [et, obs, sub10 h10, t3]
        rfl
  · have h' : r = 2 := h
    subst h'
    obtain ⟨l2, f2, d2, t2, r2⟩ := c_because r1 (by simp) 7 (nI st)
    refine ⟨f2, d2, l2, ?_, r2⟩
    have hcode : codeP (2, s, a, st, T, D) = -6 := rfl
    rw [hcode, if_pos (by rfl)]
    show ((fX1_because f1 d1 l1 7 (nI st)).bind _) = _
    rw [t2]
    rfl
end PC2
section PM2
variable {rules ml : Int32} {lefts sizes rights mi : Nat → Int32} {G : List gP} {E : Int32} {F W : Nat → Int32} {I : List Nat}
theorem goP_congr (hG : okG G) {F' W' : Nat → Int32} (hF : ∀ n, n < 8 → F' n = F n) (hW : ∀ n, n < 8 → W' n = W n) (σ : pT) : goP G E F' W' I σ = goP G E F W I σ := by
  obtain ⟨s, a, st, T, D⟩ := σ
  cases s with
  | nil => rfl
  | cons y s => simp only [goP, enT_congr hG hF hW]
theorem aP_congr (hG : okG G) {F' W' : Nat → Int32} (hF : ∀ n, n < 8 → F' n = F n) (hW : ∀ n, n < 8 → W' n = W n) : ∀ (k : Nat) (σ : pT), aP G E F' W' I k σ = aP G E F W I k σ
  | 0, _ => rfl
  | k + 1, σ => by
    simp only [aP, goP_congr hG hF hW, canP_congr hG hF hW, aP_congr hG hF hW k]
theorem repP_congr (hG : okG G) {F' W' : Nat → Int32} (hF : ∀ n, n < 8 → F' n = F n) (hW : ∀ n, n < 8 → W' n = W n) (R : Nat × pT) : repP G E F' W' I R = repP G E F W I R := by
  have e : ∀ a s, repS G E F' W' I a s = repS G E F W I a s := by
    intro a s
    cases s with
    | nil => rfl
    | cons y s => simp only [repS, entN, enT_congr hG hF hW]
  unfold repP
  rw [e]
theorem nd_app2 {ts tp : Nat → Int32} {D : List (Nat × Int32)} (h : ∀ k, k < D.length → ts k = nI (D.getD k (0, 0)).1 ∧ tp k = (D.getD k (0, 0)).2) (x : Nat) (b : Int32) : ∀ k, k < (D ++ [(x, b)]).length → upd ts D.length (nI x) k = nI ((D ++ [(x, b)]).getD k (0, 0)).1 ∧ upd tp D.length b k = ((D ++ [(x, b)]).getD k (0, 0)).2 := by
  intro k hk
  rw [List.length_append, List.length_singleton] at hk
  rw [getD_app]
  by_cases e : k < D.length
  · rw [if_pos e, pk_un (by omega), pk_un (by omega)]; exact h k e
  · have : k = D.length := by omega
    subst this
    rw [if_neg e, if_pos rfl, pk_us, pk_us]
    exact ⟨rfl, rfl⟩
theorem m_goP (hM : RM rules lefts sizes rights G) (hG : okG G) (hI : IC mi ml I) {σ : pT} (hP : PO G I σ) (h60 : σ.1.length ≤ 60) (hcan : canP G E F W I σ.2.1 σ.1 = true) (h300 : σ.2.2.1 < 300) {ks kp trs nsy npa : Nat → Int32} {top at0 stp trd mde : Int32} (hC : PM σ ks kp top at0 stp trd trs mde nsy npa) {N : Nat} (hN : 30 < N) : ∃ ks' kp' top' at' stp' trd' trs' mde' nsy' npa', fX12_goes N rules lefts sizes rights E F W mi ml ks kp top at0 stp trd trs mde nsy npa = some (1, ks', kp', top', at', stp', trd', trs', mde', nsy', npa') ∧ PM (goP G E F W I σ) ks' kp' top' at' stp' trd' trs' mde' nsy' npa' := by
  obtain ⟨s, a, st, T, D⟩ := σ
  obtain ⟨p1, p2, p3, p4, p5, p6, p7⟩ := hP
  obtain ⟨c1, rfl, rfl, rfl, rfl, c6, rfl, c8⟩ := hC
  cases s with
  | nil => exact absurd hcan (by simp [canP])
  | cons y s =>
    obtain ⟨x, b⟩ := y
    have hx : okS x := p1 _ List.mem_cons_self
    have h60' : s.length + 1 ≤ 60 := h60
    have h300' : st < 300 := h300
    have p3' : a ≤ I.length := p3
    have p4' : T.length ≤ st := p4
    have p5' : D.length = st := p5
    have h40 := hI.2.1
    have hnd := nd_app2 c8 x b
    have hDl : (D ++ [(x, b)]).length = D.length + 1 := by rw [List.length_append]; rfl
    simp only [canP] at hcan
    simp only [goP]
    by_cases h10 : x < 10
    · rw [if_pos h10, decide_eq_true_eq] at hcan
      rw [if_pos h10]
      exact ⟨_, _, _, _, _, _, _, _, _, _, m_goesT hI c1 (show s.length < 65 by omega) h10 (show a < 2 ^ 31 by omega) hcan st (nI T.length) trs (md := D.length) (by omega) nsy npa N, c1.2.2, rfl, rfl, rfl, rfl, c6, by rw [hDl], hnd⟩
    · rw [if_neg h10] at hcan
      rw [if_neg h10]
      cases he : enT G E F W (x - 10) (tok I a) with
      | none => rw [he] at hcan; exact absurd hcan (by simp)
      | some p =>
        obtain ⟨ks', kp', s1, s2⟩ := m_goesN hM hG hI c1 (show s.length < 60 by omega) h10 hx (show a < 2 ^ 31 by omega) he st (tl := T.length) (by omega) trs (md := D.length) (by omega) nsy npa hN
        rw [show nI D.length = nI st by rw [p5']] at s1
        have s2' := s2
        rw [put1_len] at s2'
        exact ⟨_, _, _, _, _, _, _, _, _, _, s2', s1, by rw [put1_len], rfl, rfl, by rw [List.length_append]; rfl, tr_app c6 p, by rw [hDl], hnd⟩
theorem m_entries (hM : RM rules lefts sizes rights G) (hG : okG G) {n : Nat} (hn : n < 8) {N : Nat} (hN : 30 < N) : fX12_entries N rules lefts sizes rights E F W (nI n) = some (nI (entN G E F W n)) := by
  have hl := hG.1
  simp only [fX12_entries, jn_]
  refine vlp2 (B := bX12_entries_4 N (nI n) rules lefts sizes rights E F W fun v => some v) (fun j v i => i = nI j ∧ j ≤ 9 ∧ v = nI (pcR (fun t => (enT G E F W n t).isSome) j)) (fun r => r = some (nI (entN G E F W n))) 9 ?_ ?_ N 0 0 (by omega) ⟨rfl, by omega, rfl⟩
  · rintro j v i hj ⟨rfl, hb, rfl⟩
    left
    refine ⟨nI (pcR (fun t => (enT G E F W n t).isSome) (j + 1)), nI (j + 1), ⟨rfl, by omega, rfl⟩, fun rc => ?_⟩
    have s1 : pcR (fun t => (enT G E F W n t).isSome) (j + 1) = pcR (fun t => (enT G E F W n t).isSome) j + (if (enT G E F W n j).isSome = true then 1 else 0) := rfl
    rw [s1]
    simp only [bX12_entries_4, jn_, lt_, nI_1]
    rw [if_neg (show ¬ (8 : Int32) < nI j from nI_nlt (show j ≤ 8 by omega) (by decide)), m_entry hM hG hn hN, obs]
    cases he : enT G E F W n j with
    | none =>
      have he' : (List.range' 0 G.length).find? (po G E F W n j) = none := he
      rw [he', oE_none, if_pos rfl, Int32.add_zero]
      rfl
    | some r =>
      have he' : (List.range' 0 G.length).find? (po G E F W n j) = some r := he
      have := enT_lt he
      rw [he', oE_some, if_neg (nI_ne_m2 (by omega))]
      rfl
  · rintro v i ⟨rfl, hb, rfl⟩
    refine ⟨_, rfl, fun rc => ?_⟩
    simp only [bX12_entries_4]
    rw [if_pos (show (8 : Int32) < nI 9 by decide)]
    rfl
theorem m_hasRules (hM : RM rules lefts sizes rights G) (hG : okG G) {n : Nat} (hn : n < 8) {N : Nat} (hN : 30 < N) : fX12_hasRules N rules lefts (nI n) = some (b01 (decide (pcR (fun p => (gp G p).1 == n) G.length ≠ 0))) := by
  have hl := hG.1
  simp only [fX12_hasRules, jn_]
  have hs := srch (B := bX12_hasRules_2 (nI n) rules lefts (fun _ => some 0)) G.length N (by omega) (fun p => (gp G p).1 == n) (fun _ => some 1) (some 0) ?_ ?_
  · refine Eq.trans hs ?_
    have hz := pcR_fst (fun p => (gp G p).1 == n) G.length
    unfold fstI
    rw [List.range_eq_range']
    cases hf : (List.range' 0 G.length).find? (fun p => (gp G p).1 == n) with
    | none => rw [hz.mpr hf]; rfl
    | some r =>
      have : pcR (fun p => (gp G p).1 == n) G.length ≠ 0 := fun q => by rw [hz, hf] at q; simp at q
      rw [decide_eq_true this]
      rfl
  · intro p hp rc
    have h8 := (okG_gp hG hp).1
    simp only [bX12_hasRules_2, lt_, nI_1]
    rw [hM.1, if_neg (nI_ge hp (by omega)), ag_ok (show p < 24 by omega), obs, (hM.2 p hp).1]
    by_cases e : (gp G p).1 = n
    · rw [if_pos (by rw [e]), if_pos (by simp [e])]
    · rw [if_neg (by rw [nI_eq (by omega) (by omega)]; exact e), if_neg (by simp [e])]
  · intro rc
    simp only [bX12_hasRules_2]
    rw [hM.1, if_pos (Int32.le_refl _)]
end PM2
