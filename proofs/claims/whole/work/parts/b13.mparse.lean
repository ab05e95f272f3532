/-! THE PARSE: the reference's loop -/
theorem put10 (ks kp : Nat → Int32) : as_ ks 66 0 10 = some (upd ks 0 10) ∧ as_ kp 66 0 (-1) = some (upd kp 0 (-1)) := ⟨as_ok (i := 0) (by decide), as_ok (i := 0) (by decide)⟩
section PM3
variable {rules ml : Int32} {lefts sizes rights mi : Nat → Int32} {G : List gP} {E : Int32} {F W : Nat → Int32} {I : List Nat}
theorem m_parse (hM : RM rules lefts sizes rights G) (hG : okG G) (hI : IC mi ml I) {L : List (Int32 × Int32)} {lv : Int32} {mc md : Nat → Int32} (hF : FL L lv mc md) {iw e : Int32} {f w st lg tr : Nat → Int32} {tl : Int32} {st' lg' tr' : Nat → Int32} {tl' : Int32} {N : Nat} (hw : fX12_works N rules lefts sizes rights iw e f w st lg tr tl = some (1, E, F, W, st', lg', tr', tl')) (ks kp : Nat → Int32) (top at0 stp trd : Int32) (trs : Nat → Int32) (nds mde : Int32) (nsy npa : Nat → Int32) (hN : 2000 < N) : ∃ lv' mc' md' ks' kp' top' at' stp' trd' trs' mde' nsy' npa', fX12_parse N rules lefts sizes rights lv mc md iw e f w st lg tr tl mi ml ks kp top at0 stp trd trs nds mde nsy npa = some (codeP (aP G E F W I 301 s0P), lv', mc', md', 1, E, F, W, st', lg', tr', tl', ks', kp', top', at', stp', trd', trs', nI (cntP (aP G E F W I 301 s0P)), mde', nsy', npa') ∧ PM (aP G E F W I 301 s0P).2 ks' kp' top' at' stp' trd' trs' mde' nsy' npa' ∧ (((aP G E F W I 301 s0P).1 = 0 ∧ lv' = lv ∧ mc' = mc ∧ md' = md) ∨ (¬ (aP G E F W I 301 s0P).1 = 0 ∧ FL (repP G E F W I (aP G E F W I 301 s0P)) lv' mc' md')) := by
  have h40 := hI.2.1
  obtain ⟨R, hR⟩ : ∃ R, R = aP G E F W I 301 s0P := ⟨_, rfl⟩
  rw [← hR]
  have hst : fX12_starts N rules lefts sizes rights iw e f w st lg tr tl ks kp top at0 stp trd nds mde = some (1, E, F, W, st', lg', tr', tl', upd ks 0 10, upd kp 0 (-1), 1, 0, 0, 0, 0, 0) := by
    simp only [fX12_starts, hw, bd8, obs]
    rw [(put10 ks kp).1, obs, (put10 ks kp).2]
    rfl
  simp only [fX12_parse, hst, bd16, obs, jn10]
  refine vlp10 (fun j ks kp top at0 stp trd trs mde nsy npa => j ≤ 300 ∧ ∃ σ : pT, σ.2.2.1 = j ∧ PO G I σ ∧ σ.1.length ≤ 60 ∧ PM σ ks kp top at0 stp trd trs mde nsy npa ∧ aP G E F W I (301 - j) σ = R) (fun r => ∃ lv' mc' md' ks' kp' top' at' stp' trd' trs' mde' nsy' npa', r = some (codeP R, lv', mc', md', 1, E, F, W, st', lg', tr', tl', ks', kp', top', at', stp', trd', trs', nI (cntP R), mde', nsy', npa') ∧ PM R.2 ks' kp' top' at' stp' trd' trs' mde' nsy' npa' ∧ ((R.1 = 0 ∧ lv' = lv ∧ mc' = mc ∧ md' = md) ∨ (¬ R.1 = 0 ∧ FL (repP G E F W I R) lv' mc' md'))) 301 ?_ ?_ N _ _ _ _ _ _ trs _ nsy npa (by omega) ⟨by omega, s0P, rfl, PO_s0 G I, by decide, ⟨⟨pk_us, pk_us, trivial⟩, rfl, rfl, rfl, rfl, fun k hk => absurd hk (Nat.not_lt_zero _), rfl, fun k hk => absurd hk (Nat.not_lt_zero _)⟩, hR.symm⟩
  · rintro j ks kp top at0 stp trd trs mde nsy npa hj ⟨hj300, σ, hst, hP, h60, hC, hA⟩
    have hP' := hP
    have hC' := hC
    obtain ⟨p1, p2, p3, p4, p5, p6, p7⟩ := hP'
    obtain ⟨c1, c2, c3, c4, c5, c6, c7, c8⟩ := hC'
    have e1 : 301 - j = (300 - j) + 1 := by omega
    rw [e1] at hA
    simp only [aP] at hA
    have hacc : fX12_isDone mi ml top at0 = some (b01 (decide (σ.1.length = 0 ∧ tok I σ.2.1 = 8))) := by rw [c2, c3]; exact m_isDone hI (by omega) (by omega)
    have hcm : fX12_canGo N rules lefts sizes rights E F W mi ml ks top at0 = some (b01 (canP G E F W I σ.2.1 σ.1)) := by rw [c2, c3]; exact m_canGo hM hG hI c1 p1 p2 (by omega) (show 30 < N by omega)
    have stops : ∀ a b : Nat, ∃ lv' mc' md', fX12_stops lv mc md (nI a) (nI b) = some (-6, lv', mc', md') ∧ FL [(1, nI a), (7, nI b)] lv' mc' md' := fun a b => by
      obtain ⟨l1, f1, d1, t1, r1⟩ := m_tells0 lv mc md 1 (nI a)
      obtain ⟨l2, f2, d2, t2, r2⟩ := m_tells1 r1 7 (nI b)
      refine ⟨l2, f2, d2, ?_, r2⟩
      simp only [fX12_stops, t1, bd3, obs, t2]
    by_cases hd : σ.1.length = 0 ∧ tok I σ.2.1 = 8
    · right
      rw [if_pos hd] at hA
      subst hA
      refine ⟨_, ⟨lv, mc, md, ks, kp, top, at0, stp, trd, trs, mde, nsy, npa, rfl, hC, Or.inl ⟨rfl, rfl, rfl, rfl⟩⟩, fun rc => ?_⟩
      simp only [bX12_parse_4]
      rw [hacc, obs, decide_eq_true hd, if_neg (by decide), c4, c7, p5]
      rfl
    · rw [if_neg hd] at hA
      by_cases hcan : canP G E F W I σ.2.1 σ.1 = true
      · rw [if_neg (by rw [hcan]; decide)] at hA
        by_cases h300 : σ.2.2.1 = 300
        · right
          rw [if_pos h300] at hA
          subst hA
          obtain ⟨lv', mc', md', t1, r1⟩ := stops σ.2.1 σ.2.2.1
          refine ⟨_, ⟨lv', mc', md', ks, kp, top, at0, stp, trd, trs, mde, nsy, npa, rfl, hC, Or.inr ⟨(by decide : ¬ (2 : Nat) = 0), r1⟩⟩, fun rc => ?_⟩
          simp only [bX12_parse_4, jn_]
          rw [hacc, obs, decide_eq_false hd, if_pos (by rfl), hcm, obs, hcan, if_neg (by decide), if_pos (show stp = 300 by rw [c4, h300]; rfl)]
          rw [c3, c4, t1]
          rfl
        · rw [if_neg h300] at hA
          have hlt : σ.2.2.1 < 300 := by omega
          have hn300 : ¬ stp = 300 := by
            rw [c4]
            intro q
            have q' : nI σ.2.2.1 = nI 300 := q
            rw [nI_eq (by omega) (by decide)] at q'
            exact h300 q'
          obtain ⟨g1, g2⟩ := goP_ok hG hP h60 hcan hlt
          obtain ⟨ks', kp', top', at', stp', trd', trs', mde', nsy', npa', k4, k5⟩ := m_goP hM hG hI hP h60 hcan hlt hC (show 30 < N by omega)
          have g65 := g1.2.1
          by_cases h60' : 60 < (goP G E F W I σ).1.length
          · right
            rw [if_pos h60'] at hA
            subst hA
            obtain ⟨lv', mc', md', t1, r1⟩ := stops (goP G E F W I σ).2.1 (goP G E F W I σ).2.2.1
            refine ⟨_, ⟨lv', mc', md', ks', kp', top', at', stp', trd', trs', mde', nsy', npa', rfl, k5, Or.inr ⟨(by decide : ¬ (2 : Nat) = 0), r1⟩⟩, fun rc => ?_⟩
            simp only [bX12_parse_4, jn_]
            rw [hacc, obs, decide_eq_false hd, if_pos (by rfl), hcm, obs, hcan, if_neg (by decide), if_neg hn300, k4]
            simp only [bd11, obs]
            rw [if_neg (by decide), if_neg (show ¬ top' ≤ 60 by rw [k5.2.1]; exact nI_ge h60' (by omega)), k5.2.2.1, k5.2.2.2.1, t1]
            rfl
          · left
            rw [if_neg h60'] at hA
            refine ⟨ks', kp', top', at', stp', trd', trs', mde', nsy', npa', ⟨by omega, goP G E F W I σ, by rw [g2, hst], g1, by omega, k5, by rw [show 301 - (j + 1) = 300 - j by omega]; exact hA⟩, fun rc => ?_⟩
            simp only [bX12_parse_4, jn_]
            rw [hacc, obs, decide_eq_false hd, if_pos (by rfl), hcm, obs, hcan, if_neg (by decide), if_neg hn300, k4]
            simp only [bd11, obs]
            rw [if_neg (by decide), if_pos (show top' ≤ 60 by rw [k5.2.1]; exact nI_le (b := 60) (by omega) (by decide))]
      · right
        have hcan' : canP G E F W I σ.2.1 σ.1 = false := by simpa using hcan
        rw [if_pos hcan'] at hA
        subst hA
        have hgo := m_goes0 hM hG hI c1 p1 p2 (show σ.2.1 < 2 ^ 31 by omega) hcan' stp trd trs mde nsy npa (show 30 < N by omega)
        rw [← c2, ← c3] at hgo
        obtain ⟨l1, f1, d1, t1, r1⟩ := m_tells0 lv mc md 1 (nI σ.2.1)
        have hrep : repP G E F W I (1, σ) = repS G E F W I σ.2.1 σ.1 := rfl
        have key : ∀ (K44 : Int32 → (Nat → Int32) → (Nat → Int32) → Option (Int32 × Int32 × (Nat → Int32) × (Nat → Int32) × Int32 × Int32 × (Nat → Int32) × (Nat → Int32) × (Nat → Int32) × (Nat → Int32) × (Nat → Int32) × Int32 × (Nat → Int32) × (Nat → Int32) × Int32 × Int32 × Int32 × Int32 × (Nat → Int32) × Int32 × Int32 × (Nat → Int32) × (Nat → Int32))), ∃ lv' mc' md', FL (repS G E F W I σ.2.1 σ.1) lv' mc' md' ∧ (if top = 0 then (bd3 (fX12_tells l1 f1 d1 1 4 (ml - at0)) fun o63 o64 o65 => K44 o63 o64 o65) else ((ag ks 66 (top - (1 : Int32))).bind fun x45 => if 10 ≤ x45 then ((ag ks 66 (top - (1 : Int32))).bind fun x46 => bd3 (fX12_tells l1 f1 d1 1 3 (x46 - (10 : Int32))) fun o48 o49 o50 => (fX12_hasRules N rules lefts (x46 - (10 : Int32))).bind fun x51 => if x51 = 0 then (bd3 (fX12_tells o48 o49 o50 2 5 (x46 - (10 : Int32))) fun o52 o53 o54 => K44 o52 o53 o54) else ((fX12_entries N rules lefts sizes rights E F W (x46 - (10 : Int32))).bind fun x55 => bd3 (fX12_tells o48 o49 o50 2 6 x55) fun o56 o57 o58 => K44 o56 o57 o58)) else ((ag ks 66 (top - (1 : Int32))).bind fun x59 => bd3 (fX12_tells l1 f1 d1 1 2 x59) fun o60 o61 o62 => K44 o60 o61 o62))) = K44 lv' mc' md' := by
          intro K44
          obtain ⟨s, a, stn, T, D⟩ := σ
          cases s with
          | nil =>
            obtain ⟨l2, f2, d2, t2, r2⟩ := m_tells1 r1 4 (nI I.length - nI a)
            refine ⟨l2, f2, d2, r2, ?_⟩
            rw [if_pos (show top = 0 from c2), hI.1, show at0 = nI a from c3, t2]
            rfl
          | cons y s =>
            obtain ⟨x, b⟩ := y
            have hx : okS x := p1 _ List.mem_cons_self
            have hx18 := okS_lt hx
            have p2' : s.length + 1 ≤ 65 := p2
            have c2' : top = nI (s.length + 1) := c2
            have et : ag ks 66 (top - 1) = some (nI x) := by rw [c2']; exact (m_rdTop c1 (by omega)).1
            rw [if_neg (show ¬ top = 0 by rw [c2']; exact nI_ne0 (by omega) (by omega)), et, obs]
            by_cases h10 : x < 10
            · obtain ⟨l2, f2, d2, t2, r2⟩ := m_tells1 r1 2 (nI x)
              refine ⟨l2, f2, d2, by simp only [repS, if_pos h10]; exact r2, ?_⟩
              rw [if_neg (nle10 h10), obs, t2]
              rfl
            · obtain ⟨l2, f2, d2, t2, r2⟩ := m_tells1 r1 3 (nI (x - 10))
              rw [if_pos (le10 h10 hx18), obs, sub10 h10, t2]
              simp only [bd3, obs]
              rw [m_hasRules hM hG (show x - 10 < 8 by omega) (show 30 < N by omega), obs]
              by_cases hz : pcR (fun p => (gp G p).1 == x - 10) G.length = 0
              · obtain ⟨l3, f3, d3, t3, r3⟩ := m_tells2 r2 5 (nI (x - 10))
                refine ⟨l3, f3, d3, by simp only [repS, if_neg h10, if_pos hz]; exact r3, ?_⟩
                rw [decide_eq_false (fun h => h hz), if_pos (by rfl), t3]
                rfl
              · obtain ⟨l3, f3, d3, t3, r3⟩ := m_tells2 r2 6 (nI (entN G E F W (x - 10)))
                refine ⟨l3, f3, d3, by simp only [repS, if_neg h10, if_neg hz]; exact r3, ?_⟩
                rw [decide_eq_true hz, if_neg (by decide), m_entries hM hG (show x - 10 < 8 by omega) (show 30 < N by omega), obs, t3]
                rfl
        obtain ⟨lv', mc', md', q1, q2⟩ := key (fun v41 v42 v43 => some ((-5), v41, v42, v43, 1, E, F, W, st', lg', tr', tl', ks, kp, top, at0, stp, trd, trs, 0, mde, nsy, npa))
        refine ⟨_, ⟨lv', mc', md', ks, kp, top, at0, stp, trd, trs, mde, nsy, npa, rfl, hC, Or.inr ⟨(by decide : ¬ (1 : Nat) = 0), q1⟩⟩, fun rc => ?_⟩
        simp only [bX12_parse_4, jn_]
        rw [hacc, obs, decide_eq_false hd, if_pos (by rfl), hcm, obs, hcan', if_pos (by rfl), hgo]
        simp only [bd11, obs]
        have t1' : fX12_tells lv mc md 0 1 at0 = some (l1, f1, d1) := by rw [c3]; exact t1
        rw [if_pos trivial, t1']
        exact q2
  · rintro ks kp top at0 stp trd trs mde nsy npa ⟨hj, _⟩
    exact absurd hj (by decide)
end PM3
