/-! THE REFERENCE'S removal of left recursion: its loops -/
theorem fstI_S (P : Nat → Bool) (j : Nat) : fstI P (j + 1) = match fstI P j with
    | some i => some i
    | none => if P j = true then some j else none := by
  unfold fstI
  rw [List.range_succ, List.find?_append]
  cases (List.range j).find? P with
  | some i => rfl
  | none =>
    rw [Option.none_or, List.find?_singleton]
theorem fstI_lt {P : Nat → Bool} {j i : Nat} (h : fstI P j = some i) : i < j ∧ P i = true := by
  unfold fstI at h
  have h1 := List.mem_of_find?_eq_some h
  have h2 := List.find?_some h
  exact ⟨by simpa using h1, h2⟩
section MTU
variable {rules : Int32} {lefts sizes rights : Nat → Int32} {G : List gP}
theorem m_isRecR {q : gP} (hq : okP q) {p n : Nat} (hp : p < 24) (hn : n < 8) (h1 : lefts p = nI q.1) (h2 : sizes p = nI q.2.length) (h3 : ∀ i, i < q.2.length → rights (5 * p + i) = nI (sy q.2 i)) : fX12_isRecursive lefts sizes rights (nI p) (nI n) = some (b01 (rcP n q)) := by
  have h8 := hq.1
  have h5 := hq.2.1
  simp only [fX12_isRecursive, jn_, gz]
  rw [ag_ok hp, obs, h1]
  unfold rcP
  by_cases en : q.1 = n
  · rw [if_pos (by rw [en]), ag_ok hp, obs, h2]
    by_cases hz : q.2.length = 0
    · rw [if_pos (show nI q.2.length ≤ 0 by rw [hz]; decide)]
      simp [b01, recP, hz]
    · have e0 : fX12_symbol rights (nI p) 0 = some (nI (sy q.2 0)) := by
        simp only [fX12_symbol]
        rw [show (0 : Int32) = nI 0 from rfl, n5, pk_mul, nI_add, ag_ok (show 5 * p + 0 < 120 by omega), obs, h3 0 (by omega)]
      have hs := okS_lt (okP_sy hq (show 0 < q.2.length by omega))
      rw [if_neg (nI_nle (by omega) (by omega)), e0, obs, n10, nI_add]
      by_cases e : sy q.2 0 = 10 + n
      · rw [if_pos (by rw [e])]
        have : recP q = true := by unfold recP; rw [e, en]; simp; omega
        simp [b01, this, en]
      · rw [if_neg (by rw [nI_eq (by omega) (by omega)]; exact e)]
        have : recP q = false := by unfold recP; rw [en]; simp [e]
        simp [b01, this]
  · rw [if_neg (by rw [nI_eq (by omega) (by omega)]; exact en)]
    simp [b01, en]
def aloP (G : List gP) (n p : Nat) : Bool := gp G p == (n, [10 + n])
theorem rec_one {q : gP} {n : Nat} (h : rcP n q = true) : (q.2.length = 1) ↔ q = (n, [10 + n]) := by
  unfold rcP at h
  rw [Bool.and_eq_true, beq_iff_eq] at h
  obtain ⟨p1, p2⟩ := recP_pos h.2
  constructor
  · intro e
    refine Prod.ext h.1 ?_
    rw [cons_sy p1, p2, h.1, List.drop_of_length_le (by omega)]
  · intro e; rw [e]; rfl
theorem alo_rec {n : Nat} : rcP n ((n, [10 + n]) : gP) = true := by
  unfold rcP recP
  simp [sy]
theorem gp_inj (hG : okG G) {p q : Nat} (hp : p < G.length) (hq : q < G.length) (h : gp G p = gp G q) : p = q := by
  have hw := List.pairwise_iff_getElem.mp hG.2.2
  have e1 : gp G p = G[p] := by simp [gp, List.getD, hp]
  have e2 : gp G q = G[q] := by simp [gp, List.getD, hq]
  rw [e1, e2] at h
  rcases Nat.lt_trichotomy p q with l | l | l
  · exact absurd h (hw p q hp hq l)
  · exact l
  · exact absurd h.symm (hw q p hq hp l)
theorem oI_some {j : Nat} (h : j < 2 ^ 31) : (0 : Int32) ≤ oI (some j) := nI_le (a := 0) (Nat.zero_le _) h
theorem m_rlScan (hM : RM rules lefts sizes rights G) (hG : okG G) {n : Nat} (hn : n < 8) (K) {N : Nat} (hN : 30 < N) : itr5 (bX12_removeLeftRecursion_22 (nI n) rules lefts sizes rights K) N 0 0 (-1) (-1) 0 = K (nI (pcR (fun p => (gp G p).1 == n && recP (gp G p)) G.length)) (nI (pcR (fun p => (gp G p).1 == n) G.length)) (oI (fstI (aloP G n) G.length)) (oI (fstI (filP G n) G.length)) := by
  have hl := hG.1
  refine vlp5 (B := bX12_removeLeftRecursion_22 (nI n) rules lefts sizes rights K) (fun j a b c d i => i = nI j ∧ j ≤ G.length ∧ a = nI (pcR (fun p => (gp G p).1 == n && recP (gp G p)) j) ∧ b = nI (pcR (fun p => (gp G p).1 == n) j) ∧ c = oI (fstI (aloP G n) j) ∧ d = oI (fstI (filP G n) j)) (fun r => r = K (nI (pcR (fun p => (gp G p).1 == n && recP (gp G p)) G.length)) (nI (pcR (fun p => (gp G p).1 == n) G.length)) (oI (fstI (aloP G n) G.length)) (oI (fstI (filP G n) G.length))) G.length ?_ ?_ N 0 0 (-1) (-1) 0 (by omega) ⟨rfl, Nat.zero_le _, rfl, rfl, rfl, rfl⟩
  · rintro j a b c d i hj ⟨rfl, hb, rfl, rfl, rfl, rfl⟩
    left
    have hq := okG_gp hG hj
    have h8 := hq.1
    have h5 := hq.2.1
    obtain ⟨r1, r2, r3⟩ := hM.2 j hj
    have hrec := m_isRecR hq (show j < 24 by omega) hn r1 r2 r3
    have a0 : aloP G n j = true → fstI (aloP G n) j = none := fun h => by
      cases e : fstI (aloP G n) j with
      | none => rfl
      | some i =>
        obtain ⟨i1, i2⟩ := fstI_lt e
        unfold aloP at h i2
        rw [beq_iff_eq] at h i2
        have := gp_inj hG (show i < G.length by omega) hj (by rw [i2, h])
        omega
    refine ⟨nI (pcR (fun p => (gp G p).1 == n && recP (gp G p)) (j + 1)), nI (pcR (fun p => (gp G p).1 == n) (j + 1)), oI (fstI (aloP G n) (j + 1)), oI (fstI (filP G n) (j + 1)), nI (j + 1), ⟨rfl, by omega, rfl, rfl, rfl, rfl⟩, fun rc => ?_⟩
    have s1 : pcR (fun p => (gp G p).1 == n && recP (gp G p)) (j + 1) = pcR (fun p => (gp G p).1 == n && recP (gp G p)) j + (if rcP n (gp G j) = true then 1 else 0) := rfl
    have s2 : pcR (fun p => (gp G p).1 == n) (j + 1) = pcR (fun p => (gp G p).1 == n) j + (if ((gp G j).1 == n) = true then 1 else 0) := rfl
    have s3 := fstI_S (aloP G n) j
    have s4 := fstI_S (filP G n) j
    rw [s1, s2]
    generalize pcR (fun p => (gp G p).1 == n && recP (gp G p)) j = A at *
    generalize pcR (fun p => (gp G p).1 == n) j = B at *
    simp only [bX12_removeLeftRecursion_22, jn4, jn_, lt_, nI_1]
    rw [hM.1, if_neg (nI_ge hj (by omega)), ag_ok (show j < 24 by omega), obs, r1]
    by_cases en : (gp G j).1 = n
    · rw [if_pos (by rw [en]), hrec, obs, show (if ((gp G j).1 == n) = true then 1 else 0) = 1 by simp [en]]
      rcases Bool.eq_false_or_eq_true (rcP n (gp G j)) with hr | hr
      · rw [hr, if_neg (by decide), ag_ok (show j < 24 by omega), obs, r2, if_pos rfl]
        have hfil : filP G n j = false := by
          unfold rcP at hr
          rw [Bool.and_eq_true] at hr
          unfold filP
          rw [hr.2]
          simp
        have e4 : fstI (filP G n) (j + 1) = fstI (filP G n) j := by
          rw [s4, hfil]
          cases fstI (filP G n) j <;> rfl
        rw [e4]
        by_cases e1 : (gp G j).2.length = 1
        · have ha : aloP G n j = true := by unfold aloP; rw [(rec_one hr).mp e1]; simp
          have e3 : fstI (aloP G n) (j + 1) = some j := by rw [s3, a0 ha, ha]; rfl
          rw [if_pos (by rw [e1]; rfl), e3]
          rfl
        · have ha : aloP G n j = false := by
            unfold aloP
            rw [beq_eq_false_iff_ne]
            exact fun h => e1 ((rec_one hr).mpr h)
          have e3 : fstI (aloP G n) (j + 1) = fstI (aloP G n) j := by
            rw [s3, ha]
            cases fstI (aloP G n) j <;> rfl
          rw [if_neg (by rw [n1, nI_eq (by omega) (by decide)]; exact e1), e3]
      · have ha : aloP G n j = false := by
          unfold aloP
          rw [beq_eq_false_iff_ne]
          intro h
          rw [h, alo_rec] at hr
          exact absurd hr (by decide)
        have e3 : fstI (aloP G n) (j + 1) = fstI (aloP G n) j := by
          rw [s3, ha]
          cases fstI (aloP G n) j <;> rfl
        have er : recP (gp G j) = false := by
          unfold rcP at hr
          rw [en] at hr
          simpa using hr
        rw [hr, if_pos (by rfl), ag_ok (show j < 24 by omega), obs, r2, if_neg (show ¬ (false = true) by decide), e3]
        by_cases e5 : (gp G j).2.length = 5
        · have hf : filP G n j = true := by unfold filP; simp [en, er, e5]
          rw [if_pos (by rw [e5]; rfl), s4, hf]
          cases ef : fstI (filP G n) j with
          | some i =>
            have := (fstI_lt ef).1
            rw [if_pos (oI_some (by omega))]
            rfl
          | none =>
            rw [if_neg (show ¬ (0 : Int32) ≤ oI none by decide)]
            rfl
        · have hf : filP G n j = false := by unfold filP; simp [e5]
          have e4 : fstI (filP G n) (j + 1) = fstI (filP G n) j := by
            rw [s4, hf]
            cases fstI (filP G n) j <;> rfl
          rw [if_neg (by rw [n5, nI_eq (by omega) (by decide)]; exact e5), e4]
          rfl
    · have hr : rcP n (gp G j) = false := by unfold rcP; simp [en]
      have ha : aloP G n j = false := by
        unfold aloP
        rw [beq_eq_false_iff_ne]
        intro h
        rw [h] at en
        exact en rfl
      have hf : filP G n j = false := by unfold filP; simp [en]
      have e3 : fstI (aloP G n) (j + 1) = fstI (aloP G n) j := by
        rw [s3, ha]
        cases fstI (aloP G n) j <;> rfl
      have e4 : fstI (filP G n) (j + 1) = fstI (filP G n) j := by
        rw [s4, hf]
        cases fstI (filP G n) j <;> rfl
      rw [if_neg (by rw [nI_eq (by omega) (by omega)]; exact en), hr, e3, e4, show (if ((gp G j).1 == n) = true then 1 else 0) = 0 by simp [en]]
      rfl
  · rintro a b c d i ⟨rfl, hb, rfl, rfl, rfl, rfl⟩
    refine ⟨_, rfl, fun rc => ?_⟩
    simp only [bX12_removeLeftRecursion_22]
    rw [hM.1, if_pos (Int32.le_refl _)]
end MTU
