/-! THE REFERENCE'S parser step -/
abbrev goT : Type := Int32 × (Nat → Int32) × (Nat → Int32) × Int32 × Int32 × Int32 × Int32 × (Nat → Int32) × Int32 × (Nat → Int32) × (Nat → Int32)
section MST
variable {rules ml : Int32} {lefts sizes rights mi : Nat → Int32} {G : List gP} {E : Int32} {F W : Nat → Int32} {I : List Nat}
theorem m_token (hI : IC mi ml I) {a : Nat} (ha : a < 2 ^ 31) : fX12_token mi ml (nI a) = some (nI (tok I a)) := by
  have h40 := hI.2.1
  simp only [fX12_token, jn_]
  unfold tok
  rw [hI.1]
  by_cases e : a < I.length
  · rw [if_neg (nI_ge e (by omega)), if_pos e, ag_ok (show a < 40 by omega), obs, hI.2.2.2 a e]
  · rw [if_pos (nI_le (by omega) ha), if_neg e]; rfl
theorem m_isDone (hI : IC mi ml I) {a d : Nat} (ha : a < 2 ^ 31) (hd : d < 2 ^ 31) : fX12_isDone mi ml (nI d) (nI a) = some (b01 (decide (d = 0 ∧ tok I a = 8))) := by
  have ht := tok_lt hI.2.2.1 a
  simp only [fX12_isDone, jn_, gz]
  by_cases e : d = 0
  · rw [if_pos (by rw [e]; rfl), m_token hI ha, obs]
    by_cases e2 : tok I a = 8
    · rw [if_pos (by rw [e2]; rfl)]; simp [b01, e, e2]
    · rw [if_neg (by rw [n8, nI_eq (by omega) (by decide)]; exact e2)]; simp [b01, e2]
  · rw [if_neg (nI_ne0 (by omega) (by omega))]; simp [b01, e]
theorem m_rdTop {ks kp : Nat → Int32} {x : Nat} {b : Int32} {s : pS} (h : SK ks kp ((x, b) :: s)) (h65 : s.length < 66) : ag ks 66 (nI (s.length + 1) - 1) = some (nI x) ∧ ag kp 66 (nI (s.length + 1) - 1) = some b := by
  have h1 : ks s.length = nI x := h.1
  have h2 : kp s.length = b := h.2.1
  rw [nI_sub1 (by omega), Nat.add_sub_cancel, ag_ok h65, ag_ok h65, h1, h2]
  exact ⟨rfl, rfl⟩
theorem m_canGo (hM : RM rules lefts sizes rights G) (hG : okG G) (hI : IC mi ml I) {ks kp : Nat → Int32} {s : pS} (h : SK ks kp s) (hk : okK s) (h65 : s.length ≤ 65) {a : Nat} (ha : a < 2 ^ 31) {N : Nat} (hN : 30 < N) : fX12_canGo N rules lefts sizes rights E F W mi ml ks (nI s.length) (nI a) = some (b01 (canP G E F W I a s)) := by
  have ht := tok_lt hI.2.2.1 a
  have hl := hG.1
  cases s with
  | nil =>
    simp only [fX12_canGo]
    rw [if_pos (by rfl)]
    rfl
  | cons y s =>
    obtain ⟨x, b⟩ := y
    have hx : okS x := hk _ List.mem_cons_self
    have hx18 := okS_lt hx
    rw [List.length_cons] at h65 ⊢
    simp only [fX12_canGo, jn_, canP]
    rw [if_neg (nI_ne0 (by omega) (by omega)), (m_rdTop h (by omega)).1, obs, m_token hI ha, obs, obs]
    by_cases h10 : x < 10
    · rw [if_neg (nle10 h10), if_pos h10]
      by_cases e : x = tok I a
      · rw [if_pos (by rw [e])]; simp [b01, gz, e]
      · rw [if_neg (by rw [nI_eq (by omega) (by omega)]; exact e)]; simp [b01, gz, e]
    · rw [if_pos (le10 h10 hx18), sub10 h10, m_entry hM hG (show x - 10 < 8 by omega) hN, obs, if_neg h10]
      show _ = some (b01 (enT G E F W (x - 10) (tok I a)).isSome)
      cases e : (List.range' 0 G.length).find? (po G E F W (x - 10) (tok I a)) with
      | none =>
        have : enT G E F W (x - 10) (tok I a) = none := e
        rw [this, oE_none, if_pos rfl]; simp [b01, gz]
      | some p =>
        have e' : enT G E F W (x - 10) (tok I a) = some p := e
        have hp := enT_lt e'
        rw [e', oE_some, if_neg (show ¬ nI p = -2 from fun q => by
          have h2 : nI p < 0 := by rw [q]; decide
          exact nI_pos (by omega) h2)]; simp [b01, gz]
theorem nI_ne_m2 {p : Nat} (hp : p < 2 ^ 31) : ¬ nI p = -2 := fun q => by
  have h2 : nI p < 0 := by rw [q]; decide
  exact nI_pos hp h2
theorem m_goes0 (hM : RM rules lefts sizes rights G) (hG : okG G) (hI : IC mi ml I) {ks kp : Nat → Int32} {s : pS} (h : SK ks kp s) (hk : okK s) (h65 : s.length ≤ 65) {a : Nat} (ha : a < 2 ^ 31) (hc : canP G E F W I a s = false) (st trd : Int32) (trs : Nat → Int32) (mde : Int32) (nsy npa : Nat → Int32) {N : Nat} (hN : 30 < N) : fX12_goes N rules lefts sizes rights E F W mi ml ks kp (nI s.length) (nI a) st trd trs mde nsy npa = some (0, ks, kp, nI s.length, nI a, st, trd, trs, mde, nsy, npa) := by
  have ht := tok_lt hI.2.2.1 a
  cases s with
  | nil =>
    simp only [fX12_goes]
    rw [if_pos (by rfl)]
  | cons y s =>
    obtain ⟨x, b⟩ := y
    have hx : okS x := hk _ List.mem_cons_self
    have hx18 := okS_lt hx
    rw [List.length_cons] at h65 ⊢
    simp only [fX12_goes, jn_, jn6]
    rw [if_neg (nI_ne0 (by omega) (by omega)), (m_rdTop h (by omega)).1, obs, (m_rdTop h (by omega)).2, obs]
    simp only [canP] at hc
    by_cases h10 : x < 10
    · rw [if_pos h10, decide_eq_false_iff_not] at hc
      rw [if_pos (lt10 h10), if_neg (nle10 h10), m_token hI ha, obs, if_neg (by rw [nI_eq (by omega) (by omega)]; exact hc)]
    · rw [if_neg h10] at hc
      have e' : enT G E F W (x - 10) (tok I a) = none := by
        cases e : enT G E F W (x - 10) (tok I a) with
        | none => rfl
        | some p => rw [e] at hc; exact absurd hc (by simp)
      have hent : fX12_entry N rules lefts sizes rights E F W (nI (x - 10)) (nI (tok I a)) = some (-2) := by
        rw [m_entry hM hG (show x - 10 < 8 by omega) hN]
        show some (oE (enT G E F W (x - 10) (tok I a))) = _
        rw [e']
        rfl
      rw [if_neg (nlt10 h10 hx18), m_token hI ha, obs, sub10 h10, hent, obs, if_pos (le10 h10 hx18), if_pos rfl]
theorem m_goesT (hI : IC mi ml I) {ks kp : Nat → Int32} {x : Nat} {b : Int32} {s : pS} (h : SK ks kp ((x, b) :: s)) (h65 : s.length < 65) (h10 : x < 10) {a : Nat} (ha : a < 2 ^ 31) (he : x = tok I a) (st : Nat) (trd : Int32) (trs : Nat → Int32) {md : Nat} (hmd : md < 300) (nsy npa : Nat → Int32) (N : Nat) : fX12_goes N rules lefts sizes rights E F W mi ml ks kp (nI (s.length + 1)) (nI a) (nI st) trd trs (nI md) nsy npa = some (1, ks, kp, nI s.length, nI (a + 1), nI (st + 1), trd, trs, nI (md + 1), upd nsy md (nI x), upd npa md b) := by
  simp only [fX12_goes, jn_, jn6, lt_]
  rw [if_neg (nI_ne0 (by omega) (by omega)), (m_rdTop h (by omega)).1, obs, (m_rdTop h (by omega)).2, obs, if_pos (lt10 h10), if_neg (nle10 h10), m_token hI ha, obs, if_pos (by rw [he]), as_ok hmd, obs, as_ok hmd, obs, if_neg (nle10 h10), nI_sub1 (show 0 < s.length + 1 by omega), Nat.add_sub_cancel, nI_1, nI_1, nI_1]
theorem m_pushLoop (hM : RM rules lefts sizes rights G) (hG : okG G) {p : Nat} (hp : p < G.length) {ks kp : Nat → Int32} {s : pS} (h : SK ks kp s) (h60 : s.length < 60) (ca : Int32) (md : Nat) (f17 : Nat → Int32) (x18 : Int32) (K : (Nat → Int32) → (Nat → Int32) → Int32 → Int32 → Int32 → (Nat → Int32) → Option goT) {N : Nat} (hN : 30 < N) : ∃ ks' kp', SK ks' kp' (put1 (gp G p).2 (nI md) s) ∧ itr4 (bX12_goes_171 rights ca (nI p) (nI (md + 1)) K f17 x18) N (nI (gp G p).2.length - 1) ks kp (nI s.length) = K ks' kp' (nI (put1 (gp G p).2 (nI md) s).length) ca x18 f17 := by
  have hq := okG_gp hG hp
  have h5 := hq.2.1
  refine vlp4 (B := bX12_goes_171 rights ca (nI p) (nI (md + 1)) K f17 x18) (fun j i sk br d => i = nI ((gp G p).2.length - j) - 1 ∧ j ≤ (gp G p).2.length ∧ d = nI (put1 ((gp G p).2.drop ((gp G p).2.length - j)) (nI md) s).length ∧ SK sk br (put1 ((gp G p).2.drop ((gp G p).2.length - j)) (nI md) s)) (fun r => ∃ ks' kp', SK ks' kp' (put1 (gp G p).2 (nI md) s) ∧ r = K ks' kp' (nI (put1 (gp G p).2 (nI md) s).length) ca x18 f17) (gp G p).2.length ?_ ?_ N (nI (gp G p).2.length - 1) ks kp (nI s.length) (by omega) ⟨by rw [Nat.sub_zero], Nat.zero_le _, by rw [Nat.sub_zero, List.drop_length]; rfl, by rw [Nat.sub_zero, List.drop_length]; exact h⟩
  · rintro j i sk br d hj ⟨rfl, hb, rfl, hs⟩
    left
    obtain ⟨m, hm⟩ : ∃ m, m = (gp G p).2.length - (j + 1) := ⟨_, rfl⟩
    have e1 : (gp G p).2.length - j = m + 1 := by omega
    have hml : m < (gp G p).2.length := by omega
    rw [e1] at hs ⊢
    rw [← hm]
    have hlen := put1_len ((gp G p).2.drop (m + 1)) (nI md) s
    rw [List.length_drop] at hlen
    refine ⟨nI m - 1, _, _, nI (put1 ((gp G p).2.drop m) (nI md) s).length, ⟨rfl, by omega, rfl, by rw [put1_drop hml]; exact SK_push hs (sy (gp G p).2 m) (nI md)⟩, fun rc => ?_⟩
    simp only [bX12_goes_171, lt_]
    rw [nI_sub1 (show 0 < m + 1 by omega), Nat.add_sub_cancel, if_neg (nI_pos (by omega)), m_symbol hM hG hp hml, obs, as_ok (show (put1 ((gp G p).2.drop (m + 1)) (nI md) s).length < 66 by omega), obs, nI_sub1 (show 0 < md + 1 by omega), Nat.add_sub_cancel, as_ok (show (put1 ((gp G p).2.drop (m + 1)) (nI md) s).length < 66 by omega), obs, put1_drop hml, List.length_cons, nI_1, Int32.sub_eq_add_neg]
  · rintro i sk br d ⟨rfl, hb, rfl, hs⟩
    rw [Nat.sub_self, List.drop_zero] at hs ⊢
    refine ⟨_, ⟨sk, br, hs, rfl⟩, fun rc => ?_⟩
    simp only [bX12_goes_171]
    rw [if_pos (by decide)]
theorem m_goesN (hM : RM rules lefts sizes rights G) (hG : okG G) (hI : IC mi ml I) {ks kp : Nat → Int32} {x : Nat} {b : Int32} {s : pS} (h : SK ks kp ((x, b) :: s)) (h60 : s.length < 60) (h10 : ¬ x < 10) (hx : okS x) {a : Nat} (ha : a < 2 ^ 31) {p : Nat} (he : enT G E F W (x - 10) (tok I a) = some p) (st : Nat) {tl : Nat} (htl : tl < 300) (trs : Nat → Int32) {md : Nat} (hmd : md < 300) (nsy npa : Nat → Int32) {N : Nat} (hN : 30 < N) : ∃ ks' kp', SK ks' kp' (put1 (gp G p).2 (nI md) s) ∧ fX12_goes N rules lefts sizes rights E F W mi ml ks kp (nI (s.length + 1)) (nI a) (nI st) (nI tl) trs (nI md) nsy npa = some (1, ks', kp', nI (put1 (gp G p).2 (nI md) s).length, nI a, nI (st + 1), nI (tl + 1), upd trs tl (nI p), nI (md + 1), upd nsy md (nI x), upd npa md b) := by
  have hl := hG.1
  have hx18 := okS_lt hx
  have hp := enT_lt he
  have hent : fX12_entry N rules lefts sizes rights E F W (nI (x - 10)) (nI (tok I a)) = some (nI p) := by
    rw [m_entry hM hG (show x - 10 < 8 by omega) hN]
    show some (oE (enT G E F W (x - 10) (tok I a))) = _
    rw [he]
    rfl
  obtain ⟨ks', kp', s1, s2⟩ := m_pushLoop hM hG hp h.2.2 h60 (nI a) md (upd trs tl (nI p)) (nI (tl + 1)) (fun v9 v10 v11 v12 v13 v14 => some (1, v9, v10, v11, v12, nI (st + 1), v13, v14, nI (md + 1), upd nsy md (nI x), upd npa md b)) hN
  refine ⟨ks', kp', s1, ?_⟩
  simp only [fX12_goes, jn_, jn6, lt_]
  rw [if_neg (nI_ne0 (by omega) (by omega)), (m_rdTop h (by omega)).1, obs, (m_rdTop h (by omega)).2, obs, if_neg (nlt10 h10 hx18), m_token hI ha, obs, sub10 h10, hent, obs, if_pos (le10 h10 hx18), if_neg (nI_ne_m2 (by omega)), as_ok hmd, obs, as_ok hmd, obs, if_pos (le10 h10 hx18), as_ok htl, obs, ag_ok (show p < 24 by omega), obs, (hM.2 p hp).2.1, nI_sub1 (show 0 < s.length + 1 by omega), Nat.add_sub_cancel, nI_1, nI_1, nI_1]
  exact s2
theorem enT_congr (hG : okG G) {F' W' : Nat → Int32} (hF : ∀ n, n < 8 → F' n = F n) (hW : ∀ n, n < 8 → W' n = W n) (n t : Nat) : enT G E F' W' n t = enT G E F W n t := by
  unfold enT
  rw [po_congr hG hF hW]
theorem canP_congr (hG : okG G) {F' W' : Nat → Int32} (hF : ∀ n, n < 8 → F' n = F n) (hW : ∀ n, n < 8 → W' n = W n) (a : Nat) (s : pS) : canP G E F' W' I a s = canP G E F W I a s := by
  cases s with
  | nil => rfl
  | cons y s => simp only [canP, enT_congr hG hF hW]
end MST
