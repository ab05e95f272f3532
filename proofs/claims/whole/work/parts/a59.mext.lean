/-! THE REFERENCE'S repair: reaches, extends1 -/
theorem SV_store {strings longs st' : Nat → Int32} {V : vW} {a b s : Nat} {t : List Nat} (hS : SV strings longs V a b) (x : wW) (hx : x.1 = some t) (h1 : ∀ k, k < t.length → st' (40 * s + k) = nI (sy t k)) (h2 : ∀ i, (i < 40 * s ∨ 40 * s + 40 ≤ i) → st' i = strings i) : SV st' (upd longs s (nI t.length)) (updW V s x) a b := by
  intro i hi1 hi2
  by_cases e : i = s
  · subst e
    rw [updW_s, hx]
    refine ⟨pk_us, fun u hu k hk => ?_⟩
    have := (Option.some.inj hu)
    subst this
    exact h1 k hk
  · rw [updW_n e]
    have h := hS i hi1 hi2
    refine ⟨by rw [pk_un e]; exact h.1, fun u hu k hk => ?_⟩
    have hok := (V i).2
    rw [hu] at hok
    have := ok40 hok
    rw [h2 _ (by omega)]
    exact h.2 u hu k hk
theorem m_storeP {row trial : Nat → Int32} {s : Nat} (hs : s < 54) {t : List Nat} (ht : t.length ≤ 40) (hT : ∀ k, k < t.length → trial k = nI (sy t k)) {N : Nat} (hN : 50 < N) : ∃ st', (∀ k8, itr2 (bX12_reaches_49 trial (nI t.length) (nI s) k8) N 0 row = k8 st') ∧ (∀ k, k < t.length → st' (40 * s + k) = nI (sy t k)) ∧ ∀ i, (i < 40 * s ∨ 40 * s + 40 ≤ i) → st' i = row i := by
  refine vlq2 (B := fun k8 => bX12_reaches_49 trial (nI t.length) (nI s) k8) (fun j i st => i = nI j ∧ j ≤ t.length ∧ (∀ k, k < j → st (40 * s + k) = nI (sy t k)) ∧ ∀ i, (i < 40 * s ∨ 40 * s + 40 ≤ i) → st i = row i) (fun r => ∃ st', (∀ k8, r k8 = k8 st') ∧ (∀ k, k < t.length → st' (40 * s + k) = nI (sy t k)) ∧ ∀ i, (i < 40 * s ∨ 40 * s + 40 ≤ i) → st' i = row i) t.length ?_ ?_ N 0 row (by omega) ⟨rfl, Nat.zero_le _, fun k hk => absurd hk (Nat.not_lt_zero _), fun _ _ => rfl⟩
  · rintro j i st hj ⟨rfl, _, h1, h2⟩
    left
    refine ⟨nI (j + 1), upd st (40 * s + j) (nI (sy t j)), ⟨rfl, by omega, fun k hk => ?_, fun i hi => ?_⟩, fun k8 rc => ?_⟩
    · by_cases e : k = j
      · subst e; exact pk_us
      · rw [pk_un (by omega)]; exact h1 k (by omega)
    · rw [pk_un (by omega)]; exact h2 i hi
    · have e40 : (40 : Int32) * nI s = nI (40 * s) := pk_mul 40 s
      simp only [bX12_reaches_49]
      rw [if_neg (nI_ge hj (by omega)), ag_ok (show j < 40 by omega), e40, nI_add]
      simp only [obs, as_ok (show 40 * s + j < 2160 by omega), hT j hj, lt_, nI_1]
  · rintro i st ⟨rfl, _, h1, h2⟩
    refine ⟨_, ⟨st, fun _ => rfl, h1, h2⟩, fun k8 rc => ?_⟩
    simp only [bX12_reaches_49]
    rw [if_pos (Int32.le_refl _)]
theorem m_storeB {ρ : Type} {row trial : Nat → Int32} {s : Nat} (hs : s < 648) {t : List Nat} (ht : t.length ≤ 40) (hT : ∀ k, k < t.length → trial k = nI (sy t k)) {N : Nat} (hN : 50 < N) : ∃ st', (∀ k40, itr2 (bX12_mends_196 (nI s) trial (nI t.length) k40) N 0 row = k40 st') ∧ (∀ k, k < t.length → st' (40 * s + k) = nI (sy t k)) ∧ ∀ i, (i < 40 * s ∨ 40 * s + 40 ≤ i) → st' i = row i := by
  refine vlq2 (B := fun k40 => bX12_mends_196 (nI s) trial (nI t.length) k40) (fun j i st => i = nI j ∧ j ≤ t.length ∧ (∀ k, k < j → st (40 * s + k) = nI (sy t k)) ∧ ∀ i, (i < 40 * s ∨ 40 * s + 40 ≤ i) → st i = row i) (fun r => ∃ st', (∀ k40, r k40 = k40 st') ∧ (∀ k, k < t.length → st' (40 * s + k) = nI (sy t k)) ∧ ∀ i, (i < 40 * s ∨ 40 * s + 40 ≤ i) → st' i = row i) t.length ?_ ?_ N 0 row (by omega) ⟨rfl, Nat.zero_le _, fun k hk => absurd hk (Nat.not_lt_zero _), fun _ _ => rfl⟩
  · rintro j i st hj ⟨rfl, _, h1, h2⟩
    left
    refine ⟨nI (j + 1), upd st (40 * s + j) (nI (sy t j)), ⟨rfl, by omega, fun k hk => ?_, fun i hi => ?_⟩, fun k40 rc => ?_⟩
    · by_cases e : k = j
      · subst e; exact pk_us
      · rw [pk_un (by omega)]; exact h1 k (by omega)
    · rw [pk_un (by omega)]; exact h2 i hi
    · have e40 : (40 : Int32) * nI s = nI (40 * s) := pk_mul 40 s
      simp only [bX12_mends_196]
      rw [if_neg (nI_ge hj (by omega)), ag_ok (show j < 40 by omega), e40, nI_add]
      simp only [obs, as_ok (show 40 * s + j < 25920 by omega), hT j hj, lt_, nI_1]
  · rintro i st ⟨rfl, _, h1, h2⟩
    refine ⟨_, ⟨st, fun _ => rfl, h1, h2⟩, fun k40 rc => ?_⟩
    simp only [bX12_mends_196]
    rw [if_pos (Int32.le_refl _)]
theorem minW_of_less {wt : Nat → Nat} {x y : wW} : minW wt y x = if lessO wt x.1 y.1 = true then x else y := by
  unfold minW lessO
  by_cases h : ky wt x < ky wt y
  · rw [if_pos h, if_pos (decide_eq_true (show kN wt x.1 < kN wt y.1 from h))]
  · rw [if_neg h, if_neg (fun (q : decide (kN wt x.1 < kN wt y.1) = true) => h (of_decide_eq_true q))]
section MX
variable {wt : Nat → Nat} {cw : Nat → Int32}
theorem m_reaches (hW : WC cw wt) {trial partly pl : Nat → Int32} {tl : Int32} {x : wW} {P : vW} (hT : TR trial tl x.1) (hS : SV partly pl P 0 54) {i to : Nat} (hi : i < 6) (hto : to < 9) {N : Nat} (hN : 50 < N) : ∃ pt' pl', fX12_reaches N trial tl cw partly pl (nI i) (nI to) = some (pt', pl') ∧ SV pt' pl' (updW P (9 * i + to) (minW wt (P (9 * i + to)) x)) 0 54 := by
  have hw := WC_9 hW
  have e9 : (9 : Int32) * nI i = nI (9 * i) := pk_mul 9 i
  have hs : 9 * i + to < 54 := by omega
  have hs0 := hS (9 * i + to) (Nat.zero_le _) hs
  have e40 : (40 : Int32) * nI (9 * i + to) = nI (40 * (9 * i + to)) := pk_mul 40 _
  have keep : minW wt (P (9 * i + to)) x = P (9 * i + to) → ∃ pt' pl', (some (partly, pl) : Option ((Nat → Int32) × (Nat → Int32))) = some (pt', pl') ∧ SV pt' pl' (updW P (9 * i + to) (minW wt (P (9 * i + to)) x)) 0 54 := fun e => ⟨partly, pl, rfl, by rw [e, updW_same]; exact hS⟩
  simp only [fX12_reaches, e9, nI_add, lt_, jn_]
  cases hx : x.1 with
  | none =>
    rw [hx] at hT
    rw [hT.1, lnI_none, if_pos (by decide)]
    refine keep ?_
    have : x = wNo := Subtype.ext hx
    rw [this, minW_no_r hw]
  | some t =>
    have hok := x.2
    rw [hx] at hT hok
    have h40 := ok40 hok
    have hT0 := hT
    obtain ⟨t1, t2⟩ := hT
    rw [t1, lnI_some, if_neg (nI_pos (by omega)), ag_ok hs, as_ok hs, e40]
    simp only [obs]
    have hl := m_isLess_partly hW hok (P (9 * i + to)).2 hT0 (row := partly) (f := 40 * (9 * i + to)) (by omega) hs0.1 hs0.2 hN
    rw [t1, lnI_some] at hl
    rw [hl]
    simp only [obs]
    have hm := minW_of_less (wt := wt) (x := x) (y := P (9 * i + to))
    rw [hx] at hm
    cases hlo : lessO wt (some t) (P (9 * i + to)).1 with
    | false =>
      rw [hlo, if_neg (by decide)] at hm
      rw [if_pos (by rfl)]
      exact keep hm
    | true =>
      rw [hlo, if_pos rfl] at hm
      rw [if_neg (by decide)]
      obtain ⟨st', s1, s2, s3⟩ := m_storeP hs h40 (t2 t rfl) (row := partly) hN
      refine ⟨st', _, s1 _, ?_⟩
      rw [hm]
      exact SV_store hS x hx s2 s3
/-- the end of extends1's body, once the part is copied -/
theorem m_extReach (hW : WC cw wt) {inp bests bl trial partly pl : Nat → Int32} {Ln tl : Int32} {s : Nat} (hs : okS s) {t0 : List Nat} {P B : vW} (hS : SV partly pl P 0 54) {i fr to : Nat} (hi : i < 5) (hfr : fr < 9) (hto : to < 9) (hP : (P (9 * i + fr)).1 = some t0) (hB : SV bests bl B 0 648) {I : List Nat} (hcond : s < 10 → (to = fr ∨ (to = fr + 1 ∧ sy I fr = s))) (hbn : ¬ s < 10 → (B (rs (s - 10) fr to)).1 ≠ none) {N : Nat} (hN : 50 < N) : ∃ pt' pl' tr' tl', SV pt' pl' (updW P (9 * (i + 1) + to) (minW wt (P (9 * (i + 1) + to)) (catW (P (9 * i + fr)) (sw (sy I) B s fr to)))) 0 54 ∧ ∀ (ρ : Type) (k27 : (Nat → Int32) → Int32 → (Nat → Int32) → (Nat → Int32) → Option ρ), ((fX12_tries tl).bind fun o29 => (ag pl 54 (nI (9 * i + fr))).bind fun x30 => bd2 (fX12_copies_partly N trial o29 partly ((40 : Int32) * nI (9 * i + fr)) x30) fun o31 o32 => if 10 ≤ nI s then ((ag bl 648 (nI (rs (s - 10) fr to))).bind fun x38 => bd2 (fX12_copies_bests N o31 o32 bests ((40 : Int32) * nI (rs (s - 10) fr to)) x38) fun o39 o40 => bd2 (fX12_reaches N o39 o40 cw partly pl (nI i + (1 : Int32)) (nI to)) fun o35 o36 => k27 o39 o40 o35 o36) else (bd2 (fX12_adds o31 o32 (nI s)) fun o41 o42 => bd2 (fX12_reaches N o41 o42 cw partly pl (nI i + (1 : Int32)) (nI to)) fun o35 o36 => k27 o41 o42 o35 o36)) = k27 tr' tl' pt' pl' := by
  have h18 := okS_lt hs
  have hok0 := (P (9 * i + fr)).2
  rw [hP] at hok0
  have hs0 := hS (9 * i + fr) (Nat.zero_le _) (by omega)
  have e40 : (40 : Int32) * nI (9 * i + fr) = nI (40 * (9 * i + fr)) := pk_mul 40 _
  have h40 := ok40 hok0
  obtain ⟨o1, e1, hT1⟩ := m_copies_partly (trial := trial) (x := some []) wEm.2 hok0 (TR_em trial) (row := partly) (f := 40 * (9 * i + fr)) (by omega) (hs0.2 t0 hP) hN
  rw [cat_em_l hok0] at hT1
  have hpl : pl (9 * i + fr) = nI t0.length := by rw [hs0.1, hP]; rfl
  by_cases h10 : s < 10
  · have h8 : s < 8 := by rcases hs with q | q <;> omega
    obtain ⟨o2, e2, hT2⟩ := m_adds hok0 hT1 s
    have hsw : sw (sy I) B s fr to = wT s := by unfold sw; rw [if_pos h10, if_pos (hcond h10)]
    have hT3 : TR o2.1 o2.2 (catW (P (9 * i + fr)) (sw (sy I) B s fr to)).1 := by
      rw [hsw]
      show TR o2.1 o2.2 (cat (P (9 * i + fr)).1 (wT s).1)
      rw [hP, wT_val h8]; exact hT2
    obtain ⟨pt', pl', e3, hS3⟩ := m_reaches hW hT3 hS (show i + 1 < 6 by omega) hto hN
    refine ⟨pt', pl', o2.1, o2.2, hS3, fun ρ k27 => ?_⟩
    simp only [m_tries, obs, ag_ok (show 9 * i + fr < 54 by omega), hpl, e40, e1, bd2]
    rw [if_neg (nle10 h10), e2]
    simp only [obs, nI_1, e3]
  · have hbn' := hbn h10
    have hrs := rs_lt (show s - 10 < 8 by omega) hfr hto
    have hb0 := hB (rs (s - 10) fr to) (Nat.zero_le _) hrs
    have eb40 : (40 : Int32) * nI (rs (s - 10) fr to) = nI (40 * rs (s - 10) fr to) := pk_mul 40 _
    have hsw : sw (sy I) B s fr to = B (rs (s - 10) fr to) := by unfold sw; rw [if_neg h10]
    cases hbv : (B (rs (s - 10) fr to)).1 with
    | none => exact absurd hbv hbn'
    | some u =>
      have hoku := (B (rs (s - 10) fr to)).2
      rw [hbv] at hoku
      have h40u := ok40 hoku
      obtain ⟨o2, e2, hT2⟩ := m_copies_bests hok0 hoku hT1 (row := bests) (f := 40 * rs (s - 10) fr to) (by omega) (hb0.2 u hbv) hN
      have hT3 : TR o2.1 o2.2 (catW (P (9 * i + fr)) (sw (sy I) B s fr to)).1 := by
        rw [hsw]
        show TR o2.1 o2.2 (cat (P (9 * i + fr)).1 (B (rs (s - 10) fr to)).1)
        rw [hP, hbv]; exact hT2
      obtain ⟨pt', pl', e3, hS3⟩ := m_reaches hW hT3 hS (show i + 1 < 6 by omega) hto hN
      have hbl : bl (rs (s - 10) fr to) = nI u.length := by rw [hb0.1, hbv]; rfl
      refine ⟨pt', pl', o2.1, o2.2, hS3, fun ρ k27 => ?_⟩
      simp only [m_tries, obs, ag_ok (show 9 * i + fr < 54 by omega), hpl, e40, e1, bd2]
      rw [if_pos (le10 h10 h18), ag_ok hrs]
      simp only [obs, hbl, eb40, e2, nI_1, e3]
end MX
