/-! THE PARSE: the class's loop, the reference's loop, both reports -/
section PL1
variable {codes tm : Nat → Int32} {count il : Int32} {G : List gP} {E : Int32} {F W se ps lo : Nat → Int32} {I : List Nat}
def s0P : pT := ([(10, -1)], 0, 0, [], [])
theorem PO_s0 (G : List gP) (I : List Nat) : PO G I s0P := ⟨fun x hx => by
    rw [show s0P.1 = [(10, -1)] from rfl, List.mem_singleton] at hx
    rw [hx]
    exact Or.inr ⟨Nat.le_refl _, by decide⟩, by decide, Nat.zero_le _, Nat.zero_le _, rfl, Nat.zero_le _, Or.inl ⟨rfl, rfl⟩⟩
/-- the parents that the machine noted -/
def paD (D : List (Nat × Int32)) (k : Nat) : Nat := (D.getD k (0, 0)).2.toNatClampNeg
theorem paD_ok {s : pS} {D : List (Nat × Int32)} (h : PAR s D) (h300 : D.length ≤ 300) (hs : s = []) : 0 < D.length ∧ (∀ k, 0 < k → k < D.length → paD D k < k) ∧ ∀ k, 0 < k → k < D.length → (D.getD k (0, 0)).2 = nI (paD D k) := by
  rcases h with ⟨_, h2⟩ | ⟨h1, h2, h3, h4⟩
  · rw [hs] at h2; exact absurd h2 (by simp)
  · refine ⟨h1, fun k hk0 hk => ?_, fun k hk0 hk => ?_⟩
    · obtain ⟨j, j1, j2⟩ := h4 k hk0 hk
      unfold paD
      rw [j2, nI_clamp (by omega)]
      exact j1
    · obtain ⟨j, j1, j2⟩ := h4 k hk0 hk
      unfold paD
      rw [j2, nI_clamp (by omega)]
def codeP (R : Nat × pT) : Int32 := if R.1 = 0 then nI R.2.2.2.1 else if R.1 = 1 then -5 else -6
def cntP (R : Nat × pT) : Nat := if R.1 = 0 then R.2.2.2.1 else 0
/-- where and why the machine stopped -/
def endP (G : List gP) (E : Int32) (F W : Nat → Int32) (I : List Nat) (R : Nat × pT) : Prop := (R.1 = 0 ∧ R.2.1 = []) ∨ (R.1 = 1 ∧ canP G E F W I R.2.2.1 R.2.1 = false) ∨ R.1 = 2
theorem c_parse (hc : RC codes count G) (hG : okG G) (hT : TBx G E F W 0 se ps lo) (hI : IC tm il I) (ta : Nat → Int32) (tn : Int32) (ts tp th : Nat → Int32) (tc0 : Int32) (sk br : Nat → Int32) (dp ix sp : Int32) {N : Nat} (hN : 2000 < N) : ∃ ta' tn' ts' tp' th' sk' br' dp' ix' sp' th0, fX4_parseInput N codes count ps lo tm il ta tn ts tp th tc0 sk br dp ix sp = some (codeP (aP G E F W I 301 s0P), ta', tn', ts', tp', th', nI (cntP (aP G E F W I 301 s0P)), sk', br', dp', ix', sp') ∧ PO G I (aP G E F W I 301 s0P).2 ∧ PC (aP G E F W I 301 s0P).2 ta' tn' ts' tp' th0 sk' br' dp' ix' sp' ∧ endP G E F W I (aP G E F W I 301 s0P) ∧ ∀ k, k < cntP (aP G E F W I 301 s0P) → th' k = nI (HU (paD (aP G E F W I 301 s0P).2.2.2.2.2) (cntP (aP G E F W I 301 s0P)) k) := by
  have h40 := hI.2.1
  obtain ⟨R, hR⟩ : ∃ R, R = aP G E F W I 301 s0P := ⟨_, rfl⟩
  rw [← hR]
  have hbegin : fX4_begin tn tc0 sk br dp ix sp = some (0, 0, upd sk 0 10, upd br 0 (-1), nI 1, 0, 0) := by
    have a0 : as_ sk 65 0 10 = some (upd sk 0 10) := as_ok (i := 0) (by decide)
    have a1 : as_ br 65 0 (-1) = some (upd br 0 (-1)) := as_ok (i := 0) (by decide)
    simp only [fX4_begin, fX4_push, jn3]
    rw [if_neg (show ¬ (65 : Int32) ≤ 0 by decide), a0, obs, a1]
    rfl
  simp only [fX4_parseInput, hbegin, bd7, obs, jn10]
  refine vlp11 (B := bX4_parseInput_6 N codes count ps lo tm il 0 fun v8 v9 v10 v11 v12 v13 v14 v15 v16 v17 => some ((-6), v8, v9, v10, v11, v12, 0, v13, v14, v15, v16, v17)) (fun j i ta tn ts tp th sk br dp ix sp => i = nI j ∧ j ≤ 300 ∧ ∃ σ : pT, σ.2.2.1 = j ∧ PO G I σ ∧ σ.1.length ≤ 60 ∧ PC σ ta tn ts tp th sk br dp ix sp ∧ aP G E F W I (301 - j) σ = R) (fun r => ∃ ta' tn' ts' tp' th' sk' br' dp' ix' sp' th0, r = some (codeP R, ta', tn', ts', tp', th', nI (cntP R), sk', br', dp', ix', sp') ∧ PO G I R.2 ∧ PC R.2 ta' tn' ts' tp' th0 sk' br' dp' ix' sp' ∧ endP G E F W I R ∧ ∀ k, k < cntP R → th' k = nI (HU (paD R.2.2.2.2.2) (cntP R) k)) 301 ?_ ?_ N 0 ta 0 ts tp th (upd sk 0 10) (upd br 0 (-1)) (nI 1) 0 0 (by omega) ⟨rfl, by omega, s0P, rfl, PO_s0 G I, by decide, ⟨⟨pk_us, pk_us, trivial⟩, rfl, rfl, rfl, rfl, fun k hk => absurd hk (Nat.not_lt_zero _), fun k hk => absurd hk (Nat.not_lt_zero _)⟩, hR.symm⟩
  · rintro j i ta tn ts tp th sk br dp ix sp hj ⟨rfl, hj300, σ, hst, hP, h60, hC, hA⟩
    have hP' := hP
    have hC' := hC
    obtain ⟨p1, p2, p3, p4, p5, p6, p7⟩ := hP'
    obtain ⟨c1, c2, c3, c4, c5, c6, c7⟩ := hC'
    have e1 : 301 - j = (300 - j) + 1 := by omega
    rw [e1] at hA
    simp only [aP] at hA
    have hacc : fX4_accepts tm il dp ix = some (b01 (decide (σ.1.length = 0 ∧ tok I σ.2.1 = 8))) := by rw [c2, c3]; exact c_accepts hI (by omega) (by omega)
    have hcm : fX4_canMove ps lo tm il sk dp ix = some (b01 (canP G E F W I σ.2.1 σ.1)) := by rw [c2, c3]; exact c_canMove hG hT hI c1 p1 p2 (by omega)
    by_cases hd : σ.1.length = 0 ∧ tok I σ.2.1 = 8
    · right
      rw [if_pos hd] at hA
      subst hA
      have hs : σ.1 = [] := List.eq_nil_of_length_eq_zero hd.1
      obtain ⟨q1, q2, q3⟩ := paD_ok p7 (by omega) hs
      obtain ⟨th', f1, f2⟩ := c_finish (pa := paD σ.2.2.2.2) q2 q1 (by omega) (tp := tp) (th := th) (fun k hk0 hk => by rw [(c7 k hk).2.1]; exact q3 k hk0 hk) (fun k hk => (c7 k hk).2.2) 0 (show 400 < N by omega)
      refine ⟨some (nI σ.2.2.1, ta, tn, ts, tp, th', nI σ.2.2.1, sk, br, dp, ix, sp), ⟨ta, tn, ts, tp, th', sk, br, dp, ix, sp, th, rfl, hP, hC, Or.inl ⟨rfl, hs⟩, ?_⟩, fun rc => ?_⟩
      · intro k hk
        have hk' : k < σ.2.2.1 := hk
        rw [← p5] at hk'
        have := f2 k hk'
        show _ = nI (HU (paD σ.2.2.2.2) σ.2.2.1 k)
        rw [← p5]
        exact this
      · simp only [bX4_parseInput_6]
        rw [if_neg (show ¬ (300 : Int32) < nI j from nI_nlt hj300 (by decide)), hacc, obs, decide_eq_true hd, if_neg (by decide), c4, ← p5, f1]
        simp only [bd2, obs]
    · rw [if_neg hd] at hA
      by_cases hcan : canP G E F W I σ.2.1 σ.1 = true
      · rw [if_neg (by rw [hcan]; decide)] at hA
        by_cases h300 : σ.2.2.1 = 300
        · right
          rw [if_pos h300] at hA
          subst hA
          refine ⟨_, ⟨ta, tn, ts, tp, th, sk, br, dp, ix, sp, th, rfl, hP, hC, Or.inr (Or.inr rfl), fun k hk => absurd hk (Nat.not_lt_zero _)⟩, fun rc => ?_⟩
          simp only [bX4_parseInput_6]
          rw [if_neg (show ¬ (300 : Int32) < nI j from nI_nlt hj300 (by decide)), hacc, obs, decide_eq_false hd, if_pos (by rfl), hcm, obs, hcan, if_neg (by decide), if_neg (show ¬ sp < 300 by rw [c4, h300]; decide)]
          rfl
        · rw [if_neg h300] at hA
          have hlt : σ.2.2.1 < 300 := by omega
          obtain ⟨g1, g2⟩ := goP_ok hG hP h60 hcan hlt
          obtain ⟨x, b, ts', tp', th', ta', tn', sk', br', dp', ix', sp', k1, k2, k3, k4, k5⟩ := c_goP hc hG hT hI hP h60 hcan hlt hC (show 30 < N by omega)
          have g65 := g1.2.1
          by_cases h60' : 60 < (goP G E F W I σ).1.length
          · right
            rw [if_pos h60'] at hA
            subst hA
            refine ⟨_, ⟨ta', tn', ts', tp', th', sk', br', dp', ix', sp', th', rfl, g1, k5, Or.inr (Or.inr rfl), fun k hk => absurd hk (Nat.not_lt_zero _)⟩, fun rc => ?_⟩
            simp only [bX4_parseInput_6]
            rw [if_neg (show ¬ (300 : Int32) < nI j from nI_nlt hj300 (by decide)), hacc, obs, decide_eq_false hd, if_pos (by rfl), hcm, obs, hcan, if_neg (by decide), if_pos (show sp < 300 by rw [c4]; exact nI_lt (b := 300) hlt (by decide)), k1, obs, k2, obs, k3]
            simp only [bd3, obs, k4, bd7]
            rw [if_neg (show ¬ dp' ≤ 60 by rw [k5.2.1]; exact nI_ge h60' (by omega))]
            rfl
          · left
            rw [if_neg h60'] at hA
            refine ⟨nI (j + 1), ta', tn', ts', tp', th', sk', br', dp', ix', sp', ⟨rfl, by omega, goP G E F W I σ, by rw [g2, hst], g1, by omega, k5, by rw [show 301 - (j + 1) = 300 - j by omega]; exact hA⟩, fun rc => ?_⟩
            simp only [bX4_parseInput_6]
            rw [if_neg (show ¬ (300 : Int32) < nI j from nI_nlt hj300 (by decide)), hacc, obs, decide_eq_false hd, if_pos (by rfl), hcm, obs, hcan, if_neg (by decide), if_pos (show sp < 300 by rw [c4]; exact nI_lt (b := 300) hlt (by decide)), k1, obs, k2, obs, k3]
            simp only [bd3, obs, k4, bd7]
            rw [if_pos (show dp' ≤ 60 by rw [k5.2.1]; exact nI_le (b := 60) (by omega) (by decide))]
            simp only [lt_, nI_1]
      · right
        have hcan' : canP G E F W I σ.2.1 σ.1 = false := by simpa using hcan
        rw [if_pos hcan'] at hA
        subst hA
        refine ⟨_, ⟨ta, tn, ts, tp, th, sk, br, dp, ix, sp, th, rfl, hP, hC, Or.inr (Or.inl ⟨rfl, hcan'⟩), fun k hk => absurd hk (Nat.not_lt_zero _)⟩, fun rc => ?_⟩
        simp only [bX4_parseInput_6]
        rw [if_neg (show ¬ (300 : Int32) < nI j from nI_nlt hj300 (by decide)), hacc, obs, decide_eq_false hd, if_pos (by rfl), hcm, obs, hcan', if_pos (by rfl)]
        rfl
  · rintro i ta tn ts tp th sk br dp ix sp ⟨rfl, hj, _⟩
    exact absurd hj (by decide)
end PL1
