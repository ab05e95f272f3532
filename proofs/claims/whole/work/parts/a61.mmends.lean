/-! THE REFERENCE'S mends -/
theorem m_minus (pl : Nat → Int32) {N : Nat} (hN : 100 < N) : ∃ pl', (∀ k86, itr2 (bX12_mends_2 k86) N 0 pl = k86 pl') ∧ ∀ s, s < 54 → pl' s = -1 := by
  refine vlq2 (B := fun k86 => bX12_mends_2 k86) (fun j i q => i = nI j ∧ j ≤ 54 ∧ ∀ s, s < j → q s = -1) (fun r => ∃ pl', (∀ k86, r k86 = k86 pl') ∧ ∀ s, s < 54 → pl' s = -1) 54 ?_ ?_ N 0 pl (by omega) ⟨rfl, by omega, fun s hs => absurd hs (Nat.not_lt_zero _)⟩
  · rintro j i q hj ⟨rfl, _, h1⟩
    left
    refine ⟨nI (j + 1), upd q j (-1), ⟨rfl, by omega, fun s hs => ?_⟩, fun k86 rc => ?_⟩
    · by_cases e : s = j
      · subst e; exact pk_us
      · rw [pk_un e]; exact h1 s (by omega)
    · simp only [bX12_mends_2]
      rw [if_neg (nleL 54 54 hj), as_ok hj]
      simp only [obs, lt_, nI_1]
  · rintro i q ⟨rfl, _, h1⟩
    refine ⟨_, ⟨q, fun _ => rfl, h1⟩, fun k86 rc => ?_⟩
    simp only [bX12_mends_2]
    rw [if_pos (by decide)]
def gM (wt : Nat → Nat) (inp : Nat → Nat) (q : gP) (a : Nat) (v0 : vW) (d : Nat) (u : vW) : vW := updW u (rs q.1 a (a + d)) (minW wt (u (rs q.1 a (a + d))) (cov wt inp v0 a q.2 q.2.length (a + d)))
def eM (wt : Nat → Nat) (inp : Nat → Nat) (q : gP) (a : Nat) (v0 : vW) (d : Nat) (u : vW) : Bool := decide (ky wt (cov wt inp v0 a q.2 q.2.length (a + d)) < ky wt (u (rs q.1 a (a + d))))
section MM
variable {rules : Int32} {lefts sizes rights : Nat → Int32} {G : List gP} {wt : Nat → Nat} {cw tm : Nat → Int32} {len : Int32} {I : List Nat}
theorem m_rowI (hM : RM rules lefts sizes rights G) (hG : okG G) (hI : IC tm len I) (hL : I.length ≤ 8) (hW : WC cw wt) {p i a : Nat} (hp : p < G.length) (hi : i < (gp G p).2.length) (ha : a ≤ I.length) {bests bl trial partly pl : Nat → Int32} {tl : Int32} {P B : vW} (hS : SV partly pl P 0 54) (hB : SV bests bl B 0 648) (h1 : ∀ b, a ≤ b → b ≤ I.length → P (9 * i + b) = cov wt (sy I) B a (gp G p).2 i b) (h2 : ∀ b, a ≤ b → b ≤ I.length → P (9 * (i + 1) + b) = wNo) {N : Nat} (hN : 100 < N) : ∃ pt' pl' tr' tl' P', (∀ k66, itr5 (bX12_mends_43 N (nI p) rights tm len cw bests bl (nI i) k66) N (nI a) trial tl partly pl = k66 tr' tl' pt' pl') ∧ SV pt' pl' P' 0 54 ∧ (∀ b, a ≤ b → b ≤ I.length → P' (9 * (i + 1) + b) = cov wt (sy I) B a (gp G p).2 (i + 1) b) ∧ ∀ s, (∀ b, a ≤ b → b ≤ I.length → s ≠ 9 * (i + 1) + b) → P' s = P s := by
  have h5 := (okG_gp hG hp).2.1
  refine vlq5 (B := fun k66 => bX12_mends_43 N (nI p) rights tm len cw bests bl (nI i) k66) (fun j ix tr tl pt pl => ix = nI (a + j) ∧ j ≤ I.length + 1 - a ∧ ∃ P', SV pt pl P' 0 54 ∧ (∀ b, a ≤ b → b ≤ I.length → P' (9 * (i + 1) + b) = mnN wt (fun d => catW (cov wt (sy I) B a (gp G p).2 i (a + d)) (sw (sy I) B (sy (gp G p).2 i) (a + d) b)) (min j (b - a + 1))) ∧ ∀ s, (∀ b, a ≤ b → b ≤ I.length → s ≠ 9 * (i + 1) + b) → P' s = P s) (fun r => ∃ pt' pl' tr' tl' P', (∀ k66, r k66 = k66 tr' tl' pt' pl') ∧ SV pt' pl' P' 0 54 ∧ (∀ b, a ≤ b → b ≤ I.length → P' (9 * (i + 1) + b) = cov wt (sy I) B a (gp G p).2 (i + 1) b) ∧ ∀ s, (∀ b, a ≤ b → b ≤ I.length → s ≠ 9 * (i + 1) + b) → P' s = P s) (I.length + 1 - a) ?_ ?_ N (nI a) trial tl partly pl (by omega) ⟨rfl, Nat.zero_le _, P, hS, fun b q1 q2 => by rw [h2 b q1 q2, Nat.zero_min]; rfl, fun _ _ => rfl⟩
  · rintro j ix tr tl pt pl2 hj ⟨rfl, _, P1, S1, a1, a2⟩
    left
    obtain ⟨pt', pl', tr', tl', P', e, S', b1, b2⟩ := m_extends1 hM hG hI hL hW hp hi (show a + j ≤ I.length by omega) (trial := tr) (tl := tl) S1 hB (show 50 < N by omega)
    refine ⟨nI (a + (j + 1)), tr', tl', pt', pl', ⟨rfl, by omega, P', S', fun b q1 q2 => ?_, fun s hs => ?_⟩, fun k66 rc => ?_⟩
    · by_cases hb : a + j ≤ b
      · rw [b1 b hb q2, a1 b q1 q2, a2 (9 * i + (a + j)) (fun b' _ _ => by omega), h1 (a + j) (by omega) (by omega)]
        have e1 : min j (b - a + 1) = j := by omega
        have e2 : min (j + 1) (b - a + 1) = j + 1 := by omega
        rw [e1, e2]; rfl
      · rw [b2 _ (fun b' q3 q4 => by omega), a1 b q1 q2]
        have e1 : min j (b - a + 1) = b - a + 1 := by omega
        have e2 : min (j + 1) (b - a + 1) = b - a + 1 := by omega
        rw [e1, e2]
    · rw [b2 s (fun b q1 q2 => hs b (by omega) q2)]; exact a2 s hs
    · simp only [bX12_mends_43]
      rw [hI.1, if_neg (nI_nlt (by omega) (by omega)), ← hI.1, e]
      simp only [bd4, obs, lt_, nI_1]
      rfl
  · rintro ix tr tl pt pl2 ⟨rfl, _, P1, S1, a1, a2⟩
    refine ⟨_, ⟨pt, pl2, tr, tl, P1, fun _ => rfl, S1, fun b q1 q2 => ?_, a2⟩, fun k66 rc => ?_⟩
    · rw [a1 b q1 q2]
      have e1 : min (I.length + 1 - a) (b - a + 1) = b - a + 1 := by omega
      rw [e1]; rfl
    · simp only [bX12_mends_43]
      rw [hI.1, if_pos (nI_lt (by omega) (by omega))]
theorem m_rows (hM : RM rules lefts sizes rights G) (hG : okG G) (hI : IC tm len I) (hL : I.length ≤ 8) (hW : WC cw wt) {p a : Nat} (hp : p < G.length) (ha : a ≤ I.length) {bests bl trial partly pl : Nat → Int32} {tl : Int32} {P B : vW} (hS : SV partly pl P 0 54) (hB : SV bests bl B 0 648) (h0 : ∀ s, s < 54 → P s = if s = a then wEm else wNo) {N : Nat} (hN : 100 < N) : ∃ pt' pl' tr' tl' P', (∀ k53, itr5 (bX12_mends_30 N (nI p) (nI a) sizes rights tm len cw bests bl k53) N 0 trial tl partly pl = k53 tr' tl' pt' pl') ∧ SV pt' pl' P' 0 54 ∧ ∀ b, a ≤ b → b ≤ I.length → P' (9 * (gp G p).2.length + b) = cov wt (sy I) B a (gp G p).2 (gp G p).2.length b := by
  have h5 := (okG_gp hG hp).2.1
  have hl := hG.1
  refine vlq5 (B := fun k53 => bX12_mends_30 N (nI p) (nI a) sizes rights tm len cw bests bl k53) (fun j ix tr tl pt pl => ix = nI j ∧ j ≤ (gp G p).2.length ∧ ∃ P', SV pt pl P' 0 54 ∧ (∀ b, a ≤ b → b ≤ I.length → P' (9 * j + b) = cov wt (sy I) B a (gp G p).2 j b) ∧ ∀ i b, j < i → i ≤ 5 → a ≤ b → b ≤ I.length → P' (9 * i + b) = wNo) (fun r => ∃ pt' pl' tr' tl' P', (∀ k53, r k53 = k53 tr' tl' pt' pl') ∧ SV pt' pl' P' 0 54 ∧ ∀ b, a ≤ b → b ≤ I.length → P' (9 * (gp G p).2.length + b) = cov wt (sy I) B a (gp G p).2 (gp G p).2.length b) (gp G p).2.length ?_ ?_ N 0 trial tl partly pl (by omega) ⟨rfl, Nat.zero_le _, P, hS, fun b q1 q2 => ?_, fun i b q1 q2 q3 q4 => ?_⟩
  · rintro j ix tr tl pt pl2 hj ⟨rfl, _, P1, S1, a1, a2⟩
    left
    obtain ⟨pt', pl', tr', tl', P', e, S', b1, b2⟩ := m_rowI hM hG hI hL hW hp hj ha (trial := tr) (tl := tl) S1 hB a1 (fun b q1 q2 => a2 (j + 1) b (by omega) (by omega) q1 q2) hN
    refine ⟨nI (j + 1), tr', tl', pt', pl', ⟨rfl, by omega, P', S', b1, fun i b q1 q2 q3 q4 => ?_⟩, fun k53 rc => ?_⟩
    · rw [b2 _ (fun b' _ _ => by omega)]; exact a2 i b (by omega) q2 q3 q4
    · simp only [bX12_mends_30, ag_ok (show p < 24 by omega), obs, (hM.2 p hp).2.1]
      rw [if_neg (nI_ge hj (by omega))]
      simp only [jn4]
      rw [e]
      simp only [lt_, nI_1]
  · rintro ix tr tl pt pl2 ⟨rfl, _, P1, S1, a1, a2⟩
    refine ⟨_, ⟨pt, pl2, tr, tl, P1, fun _ => rfl, S1, a1⟩, fun k53 rc => ?_⟩
    simp only [bX12_mends_30, ag_ok (show p < 24 by omega), obs, (hM.2 p hp).2.1]
    rw [if_pos (Int32.le_refl _)]
  · rw [h0 _ (by omega)]
    show _ = if b = a then wEm else wNo
    by_cases eb : b = a
    · rw [if_pos (by omega), if_pos eb]
    · rw [if_neg (by omega), if_neg eb]
  · rw [h0 _ (by omega), if_neg (by omega)]
theorem m_mendsTo (hM : RM rules lefts sizes rights G) (hG : okG G) (hI : IC tm len I) (hL : I.length ≤ 8) (hW : WC cw wt) {p a : Nat} (hp : p < G.length) (ha : a ≤ I.length) {bests bl trial partly pl : Nat → Int32} {tl : Int32} {P B : vW} (hS : SV partly pl P 0 54) (hB : SV bests bl B 0 648) (hP : ∀ b, a ≤ b → b ≤ I.length → P (9 * (gp G p).2.length + b) = cov wt (sy I) B a (gp G p).2 (gp G p).2.length b) {N : Nat} (hN : 100 < N) : ∃ be' bl' tr' tl', (∀ k12, itr6 (bX12_mends_77 N (nI p) (nI a) lefts sizes len cw partly pl k12) N 0 (nI a) trial tl bests bl = k12 (b01 (chN (eM wt (sy I) (gp G p) a B) (gM wt (sy I) (gp G p) a B) (I.length + 1 - a) B)) tr' tl' be' bl') ∧ SV be' bl' (foldN (gM wt (sy I) (gp G p) a B) (I.length + 1 - a) B) 0 648 := by
  have hw := WC_9 hW
  have hq := okG_gp hG hp
  have h5 := hq.2.1
  have h8 := hq.1
  have hl := hG.1
  refine vlq6 (B := fun k12 => bX12_mends_77 N (nI p) (nI a) lefts sizes len cw partly pl k12) (fun j f ix tr tl be bl => ix = nI (a + j) ∧ j ≤ I.length + 1 - a ∧ f = b01 (chN (eM wt (sy I) (gp G p) a B) (gM wt (sy I) (gp G p) a B) j B) ∧ SV be bl (foldN (gM wt (sy I) (gp G p) a B) j B) 0 648) (fun r => ∃ be' bl' tr' tl', (∀ k12, r k12 = k12 (b01 (chN (eM wt (sy I) (gp G p) a B) (gM wt (sy I) (gp G p) a B) (I.length + 1 - a) B)) tr' tl' be' bl') ∧ SV be' bl' (foldN (gM wt (sy I) (gp G p) a B) (I.length + 1 - a) B) 0 648) (I.length + 1 - a) ?_ ?_ N 0 (nI a) trial tl bests bl (by omega) ⟨rfl, Nat.zero_le _, rfl, hB⟩
  · rintro j f ix tr tl be bl2 hj ⟨rfl, _, rfl, S1⟩
    left
    have hfs : foldN (gM wt (sy I) (gp G p) a B) (j + 1) B = gM wt (sy I) (gp G p) a B j (foldN (gM wt (sy I) (gp G p) a B) j B) := rfl
    have hcs : chN (eM wt (sy I) (gp G p) a B) (gM wt (sy I) (gp G p) a B) (j + 1) B = (chN (eM wt (sy I) (gp G p) a B) (gM wt (sy I) (gp G p) a B) j B || eM wt (sy I) (gp G p) a B j (foldN (gM wt (sy I) (gp G p) a B) j B)) := rfl
    rw [hcs, hfs]
    generalize foldN (gM wt (sy I) (gp G p) a B) j B = u at *
    generalize chN (eM wt (sy I) (gp G p) a B) (gM wt (sy I) (gp G p) a B) j B = c at *
    have hPb := hP (a + j) (by omega) (by omega)
    have hs54 : 9 * (gp G p).2.length + (a + j) < 54 := by omega
    have hs0 := hS _ (Nat.zero_le _) hs54
    have hrs := rs_lt h8 (show a < 9 by omega) (show a + j < 9 by omega)
    have hb0 := S1 _ (Nat.zero_le _) hrs
    have e9 : (9 : Int32) * nI (gp G p).2.length + nI (a + j) = nI (9 * (gp G p).2.length + (a + j)) := by
      have : (9 : Int32) * nI (gp G p).2.length = nI (9 * (gp G p).2.length) := pk_mul 9 _
      rw [this, nI_add]
    have e81 : (81 : Int32) * nI (gp G p).1 + (9 : Int32) * nI a + nI (a + j) = nI (rs (gp G p).1 a (a + j)) := by
      have e1 : (81 : Int32) * nI (gp G p).1 = nI (81 * (gp G p).1) := pk_mul 81 _
      have e2 : (9 : Int32) * nI a = nI (9 * a) := pk_mul 9 _
      rw [e1, e2, nI_add, nI_add]; rfl
    have hg : gM wt (sy I) (gp G p) a B j u = updW u (rs (gp G p).1 a (a + j)) (minW wt (u (rs (gp G p).1 a (a + j))) (P (9 * (gp G p).2.length + (a + j)))) := by rw [hPb]; rfl
    have he : eM wt (sy I) (gp G p) a B j u = lessO wt (P (9 * (gp G p).2.length + (a + j))).1 (u (rs (gp G p).1 a (a + j))).1 := by rw [hPb]; rfl
    rw [hg, he]
    have hmw := minW_of_less (wt := wt) (x := P (9 * (gp G p).2.length + (a + j))) (y := u (rs (gp G p).1 a (a + j)))
    have hnl : ¬ len < nI (a + j) := by rw [hI.1]; exact nI_nlt (by omega) (by omega)
    generalize hx : P (9 * (gp G p).2.length + (a + j)) = x at *
    have same : lessO wt x.1 (u (rs (gp G p).1 a (a + j))).1 = false → updW u (rs (gp G p).1 a (a + j)) (minW wt (u (rs (gp G p).1 a (a + j))) x) = u := by
      intro h
      rw [hmw, h, if_neg (by decide), updW_same]
    cases hxv : x.1 with
    | none =>
      have hlo : lessO wt x.1 (u (rs (gp G p).1 a (a + j))).1 = false := by rw [hxv]; exact lessO_none hw (u _).2
      rw [same hlo, ← hxv, hlo, Bool.or_false]
      have hpl : pl (9 * (gp G p).2.length + (a + j)) = -1 := by rw [hs0.1, hxv]; rfl
      refine ⟨b01 c, nI (a + (j + 1)), tr, tl, be, bl2, ⟨rfl, by omega, rfl, S1⟩, fun k12 rc => ?_⟩
      simp only [bX12_mends_77]
      rw [if_neg hnl, ag_ok (show p < 24 by omega), ag_ok (show p < 24 by omega)]
      simp only [obs, lt_, (hM.2 p hp).2.1, (hM.2 p hp).1, e9, e81, ag_ok hs54, hpl, jn5]
      rw [if_neg (by decide), nI_1]
      rfl
    | some t =>
      have hok := x.2
      rw [hxv] at hok
      have h40 := ok40 hok
      have hpl : pl (9 * (gp G p).2.length + (a + j)) = nI t.length := by rw [hs0.1, hxv]; rfl
      have e40 : (40 : Int32) * nI (9 * (gp G p).2.length + (a + j)) = nI (40 * (9 * (gp G p).2.length + (a + j))) := pk_mul 40 _
      have e40b : (40 : Int32) * nI (rs (gp G p).1 a (a + j)) = nI (40 * rs (gp G p).1 a (a + j)) := pk_mul 40 _
      obtain ⟨o1, e1, hT1⟩ := m_copies_partly (trial := tr) (x := some []) wEm.2 hok (TR_em tr) (row := partly) (f := 40 * (9 * (gp G p).2.length + (a + j))) (by omega) (hs0.2 t hxv) (show 50 < N by omega)
      rw [cat_em_l hok] at hT1
      have hl2 := m_isLess_bests hW hok (u (rs (gp G p).1 a (a + j))).2 hT1 (row := be) (f := 40 * rs (gp G p).1 a (a + j)) (by omega) hb0.1 hb0.2 (show 50 < N by omega)
      have hbody : ∀ k12 rc, bX12_mends_77 N (nI p) (nI a) lefts sizes len cw partly pl k12 rc (b01 c) (nI (a + j)) tr tl be bl2 = if b01 (lessO wt (some t) (u (rs (gp G p).1 a (a + j))).1) = 0 then rc (b01 c) (nI (a + j) + 1) o1.1 o1.2 be bl2 else (as_ bl2 648 (nI (rs (gp G p).1 a (a + j))) o1.2).bind fun f38 => itr2 (bX12_mends_196 (nI (rs (gp G p).1 a (a + j))) o1.1 o1.2 fun v39 => rc 1 (nI (a + j) + 1) o1.1 o1.2 v39 f38) N 0 be := by
        intro k12 rc
        simp only [bX12_mends_77]
        rw [if_neg hnl, ag_ok (show p < 24 by omega), ag_ok (show p < 24 by omega)]
        simp only [obs, lt_, (hM.2 p hp).2.1, (hM.2 p hp).1, e9, e81, ag_ok hs54, hpl, jn5, jn_]
        rw [if_pos (nI_pos' (by omega))]
        simp only [m_tries, obs, e40, e1, bd2, ag_ok hrs, e40b, hl2]
      cases hlo : lessO wt (some t) (u (rs (gp G p).1 a (a + j))).1 with
      | false =>
        rw [same (by rw [hxv]; exact hlo), Bool.or_false]
        exact ⟨b01 c, nI (a + (j + 1)), o1.1, o1.2, be, bl2, ⟨rfl, by omega, rfl, S1⟩, fun k12 rc => by rw [hbody, hlo, if_pos (by rfl), nI_1]; rfl⟩
      | true =>
        obtain ⟨st', s1, s2, s3⟩ := m_storeB (ρ := Int32) hrs h40 (hT1.2 t rfl) (row := be) (show 50 < N by omega)
        have ht1 : o1.2 = nI t.length := hT1.1
        rw [hmw, hxv, hlo, if_pos rfl, Bool.or_true]
        refine ⟨1, nI (a + (j + 1)), o1.1, o1.2, st', _, ⟨rfl, by omega, rfl, SV_store S1 x hxv s2 s3⟩, fun k12 rc => ?_⟩
        rw [hbody, hlo, if_neg (by decide), as_ok hrs]
        simp only [obs]
        rw [ht1, s1, nI_1]; rfl
  · rintro f ix tr tl be bl2 ⟨rfl, _, rfl, S1⟩
    refine ⟨_, ⟨be, bl2, tr, tl, fun _ => rfl, S1⟩, fun k12 rc => ?_⟩
    simp only [bX12_mends_77]
    rw [hI.1, if_pos (nI_lt (by omega) (by omega))]
theorem m_mends (hM : RM rules lefts sizes rights G) (hG : okG G) (hI : IC tm len I) (hL : I.length ≤ 8) (hW : WC cw wt) {p a : Nat} (hp : p < G.length) (ha : a ≤ I.length) {bests bl trial partly pl : Nat → Int32} {tl : Int32} {B : vW} (hB : SV bests bl B 0 648) {N : Nat} (hN : 100 < N) : ∃ be' bl' tr' tl' pt' pl', fX12_mends N lefts sizes rights trial tl tm len cw bests bl partly pl (nI p) (nI a) = some (b01 (chN (eM wt (sy I) (gp G p) a B) (gM wt (sy I) (gp G p) a B) (I.length + 1 - a) B), tr', tl', be', bl', pt', pl') ∧ SV be' bl' (foldN (gM wt (sy I) (gp G p) a B) (I.length + 1 - a) B) 0 648 := by
  obtain ⟨pl0, e0, q0⟩ := m_minus pl hN
  have S0 : SV partly (upd pl0 a 0) (fun s => if s = a then wEm else wNo) 0 54 := by
    intro s _ hs
    by_cases e : s = a
    · subst e
      simp only [if_pos rfl]
      refine ⟨pk_us, fun u hu k hk => ?_⟩
      have : u = [] := (Option.some.inj hu).symm
      subst this
      simp at hk
    · simp only [if_neg e]
      exact ⟨by rw [pk_un e]; exact q0 s hs, fun u hu => by simp [wNo] at hu⟩
  obtain ⟨pt1, pl1, tr1, tl1, P1, e1, S1, c1⟩ := m_rows hM hG hI hL hW hp ha (trial := trial) (tl := tl) S0 hB (fun _ _ => rfl) hN
  obtain ⟨be2, bl2, tr2, tl2, e2, S2⟩ := m_mendsTo hM hG hI hL hW hp ha (trial := tr1) (tl := tl1) S1 hB c1 hN
  refine ⟨be2, bl2, tr2, tl2, pt1, pl1, ?_, S2⟩
  simp only [fX12_mends, jn_, jn4, jn5]
  rw [e0, as_ok (show a < 54 by omega)]
  simp only [obs]
  rw [e1, e2]
  unfold gz
  rw [if_pos (b01_01 _)]
end MM
