/-! THE REFERENCE'S conflicts -/
def fmR {α ρ : Type} (L : List α) (till m : Nat) (f : α → Option ρ) (k : Nat → Option ρ) : Option ρ := match L[till - m]? with
  | some x => f x
  | none => k (m + L.length)
theorem fmR_nil {α ρ : Type} (till m : Nat) (f : α → Option ρ) (k : Nat → Option ρ) : fmR [] till m f k = k m := by
  unfold fmR
  simp
theorem fmR_none {α ρ : Type} {L : List α} {till m : Nat} {f : α → Option ρ} {k : Nat → Option ρ} (h : L[till - m]? = none) : fmR L till m f k = k (m + L.length) := by
  unfold fmR
  rw [h]
theorem fmR_some {α ρ : Type} {L : List α} {till m : Nat} {f : α → Option ρ} {k : Nat → Option ρ} {x : α} (h : L[till - m]? = some x) : fmR L till m f k = f x := by
  unfold fmR
  rw [h]
theorem fmR_app {α ρ : Type} (A B : List α) (till m : Nat) (f : α → Option ρ) (k : Nat → Option ρ) : fmR (A ++ B) till m f k = fmR A till m f (fun m' => fmR B till m' f k) := by
  by_cases h : till - m < A.length
  · have e1 : A[till - m]? = some A[till - m] := List.getElem?_eq_getElem h
    have e2 : (A ++ B)[till - m]? = some A[till - m] := by rw [List.getElem?_append_left h, e1]
    rw [fmR_some e1, fmR_some e2]
  · have e1 : A[till - m]? = none := List.getElem?_eq_none (by omega)
    rw [fmR_none e1]
    have e2 : (A ++ B)[till - m]? = B[till - (m + A.length)]? := by
      rw [List.getElem?_append_right (by omega)]
      congr 1; omega
    unfold fmR
    rw [e2, List.length_append]
    have : m + (A.length + B.length) = m + A.length + B.length := by omega
    rw [this]
theorem fmR_map {α β ρ : Type} (A : List α) (h : α → β) (till m : Nat) (f : β → Option ρ) (k : Nat → Option ρ) : fmR (A.map h) till m f k = fmR A till m (fun x => f (h x)) k := by
  unfold fmR
  rw [List.getElem?_map, List.length_map]
  cases A[till - m]? <;> rfl
/-- what is behind is only asked about when the place is further on -/
theorem fmR_ext {α ρ : Type} {L : List α} {till m : Nat} {f : α → Option ρ} {k k' : Nat → Option ρ} (h : m + L.length ≤ till → k (m + L.length) = k' (m + L.length)) (hm : m ≤ till) : fmR L till m f k = fmR L till m f k' := by
  unfold fmR
  cases e : L[till - m]? with
  | some x => rfl
  | none =>
    refine h ?_
    have := List.getElem?_eq_none_iff.mp e
    omega
abbrev c5T : Type := Int32 × Int32 × Int32 × Int32 × Int32
def rt5 (till n t p q : Nat) : Option c5T := some (nI (till + 1), nI n, nI t, nI p, nI q)
section MCF
variable {rules : Int32} {lefts sizes rights : Nat → Int32} {G : List gP} {E : Int32} {F W : Nat → Int32}
theorem m_cQ (hM : RM rules lefts sizes rights G) (hG : okG G) {till n t p : Nat} (htill : till < 2 ^ 31) (hn : n < 8) {N0 : Nat} (hN0 : 30 < N0) (k21 : Int32 → Option c5T) : ∀ (k q m N : Nat), q + k = G.length → k < N → m ≤ till → m + k < 2 ^ 30 → itr2 (bX12_conflicts_66 N0 (nI till) rules lefts sizes rights E F W (nI n) (nI t) (nI p) k21) N (nI m) (nI q) = fmR ((List.range' q k).filter (po G E F W n t)) till m (fun q' => rt5 till n t p q') (fun m' => k21 (nI m')) := by
  have hl := hG.1
  intro k
  induction k with
  | zero =>
    intro q m N hq hN hm hb
    obtain ⟨M, rfl⟩ : ∃ M, N = M + 1 := ⟨N - 1, by omega⟩
    rw [itr2_S]
    simp only [bX12_conflicts_66]
    rw [hM.1, if_pos (by rw [← hq]; exact Int32.le_refl _)]
    symm
    exact fmR_nil _ _ _ _
  | succ k ih =>
    intro q m N hq hN hm hb
    obtain ⟨M, rfl⟩ : ∃ M, N = M + 1 := ⟨N - 1, by omega⟩
    have hql : q < G.length := by omega
    have h8 := (okG_gp hG hql).1
    rw [itr2_S, List.range'_succ]
    simp only [bX12_conflicts_66]
    rw [hM.1, if_neg (nI_ge (by omega) (by omega)), ag_ok (show q < 24 by omega), ← hM.1]
    simp only [obs, (hM.2 q hql).1, jn_, m_selects hM hG hql (show 5 < N0 by omega), bit01, lt_, nI_1]
    by_cases hpo : po G E F W n t q = true
    · obtain ⟨e1, e2⟩ := po_eq.mp hpo
      rw [List.filter_cons_of_pos hpo, if_pos (by rw [e1]), e2, if_neg (by decide)]
      by_cases hlt : till < m + 1
      · have : till = m := by omega
        subst this
        rw [if_pos (nI_lt (by omega) (by omega)), fmR_some (x := q) (by rw [Nat.sub_self]; rfl)]
        rfl
      · rw [if_neg (nI_nlt (by omega) htill)]
        have := ih (q + 1) (m + 1) M (by omega) (by omega) (by omega) (by omega)
        refine Eq.trans this ?_
        unfold fmR
        have e3 : till - m = (till - (m + 1)) + 1 := by omega
        rw [e3, List.getElem?_cons_succ, List.length_cons]
        have e4 : ∀ x, m + 1 + x = m + (x + 1) := fun x => by omega
        rw [e4]
    · rw [List.filter_cons_of_neg hpo]
      have hi := ih (q + 1) m M (by omega) (by omega) hm (by omega)
      by_cases e1 : (gp G q).1 = n
      · have e2 : tb (sel E F W (gp G q)) t = false := by
          cases ht : tb (sel E F W (gp G q)) t with
          | false => rfl
          | true => exact absurd (po_eq.mpr ⟨e1, ht⟩) hpo
        rw [if_pos (by rw [e1]), e2, if_pos (by rfl)]
        exact hi
      · rw [if_neg (by rw [nI_eq (by omega) (by omega)]; exact e1)]
        exact hi
theorem m_cP (hM : RM rules lefts sizes rights G) (hG : okG G) {till n t : Nat} (htill : till < 2 ^ 31) (hn : n < 8) {N0 : Nat} (hN0 : 30 < N0) (k14 : Int32 → Option c5T) : ∀ (k p m N : Nat), p + k = G.length → k < N → m ≤ till → m + (CPf G (po G E F W n t) p k).length + 30 < 2 ^ 30 → itr2 (bX12_conflicts_23 N0 (nI till) rules lefts sizes rights E F W (nI n) (nI t) k14) N (nI m) (nI p) = fmR (CPf G (po G E F W n t) p k) till m (fun pq => rt5 till n t pq.1 pq.2) (fun m' => k14 (nI m')) := by
  have hl := hG.1
  intro k
  induction k with
  | zero =>
    intro p m N hp hN hm hb
    obtain ⟨M, rfl⟩ : ∃ M, N = M + 1 := ⟨N - 1, by omega⟩
    rw [itr2_S]
    simp only [bX12_conflicts_23]
    rw [hM.1, if_pos (by rw [← hp]; exact Int32.le_refl _)]
    symm
    exact fmR_nil _ _ _ _
  | succ k ih =>
    intro p m N hp hN hm hb
    obtain ⟨M, rfl⟩ : ∃ M, N = M + 1 := ⟨N - 1, by omega⟩
    have hpl : p < G.length := by omega
    have h8 := (okG_gp hG hpl).1
    have e : CPf G (po G E F W n t) p (k + 1) = ((PLq G (po G E F W n t) p).map fun q => (p, q)) ++ CPf G (po G E F W n t) (p + 1) k := by
      unfold CPf
      rw [List.range'_succ, List.flatMap_cons]
    have hk : G.length - (p + 1) = k := by omega
    rw [e, List.length_append, List.length_map] at hb
    rw [itr2_S, e, fmR_app, fmR_map]
    simp only [bX12_conflicts_23]
    rw [hM.1, if_neg (nI_ge (by omega) (by omega)), ag_ok (show p < 24 by omega), ← hM.1]
    simp only [obs, (hM.2 p hpl).1, jn_, m_selects hM hG hpl (show 5 < N0 by omega), bit01, lt_, nI_1]
    by_cases hpo : po G E F W n t p = true
    · obtain ⟨e1, e2⟩ := po_eq.mp hpo
      rw [if_pos (by rw [e1]), e2, if_neg (by decide), m_cQ hM hG htill hn hN0 _ k (p + 1) m N0 (by omega) (by omega) hm (by omega)]
      have hPL : PLq G (po G E F W n t) p = (List.range' (p + 1) k).filter (po G E F W n t) := by unfold PLq; rw [if_pos hpo, hk]
      rw [hPL] at hb ⊢
      refine fmR_ext (fun hle => ?_) hm
      exact ih (p + 1) _ M (by omega) (by omega) hle (by omega)
    · have hPL : PLq G (po G E F W n t) p = [] := by unfold PLq; rw [if_neg hpo]
      rw [hPL, fmR_nil]
      rw [hPL] at hb
      have hi := ih (p + 1) m M (by omega) (by omega) hm (by simp at hb; omega)
      by_cases e1 : (gp G p).1 = n
      · have e2 : tb (sel E F W (gp G p)) t = false := by
          cases ht : tb (sel E F W (gp G p)) t with
          | false => rfl
          | true => exact absurd (po_eq.mpr ⟨e1, ht⟩) hpo
        rw [if_pos (by rw [e1]), e2, if_pos (by rfl)]
        exact hi
      · rw [if_neg (by rw [nI_eq (by omega) (by omega)]; exact e1)]
        exact hi
def rtC (till : Nat) (x : Nat × Nat × Nat) : Option c5T := rt5 till (x.1 / 9) (x.1 % 9) x.2.1 x.2.2
theorem m_cT (hM : RM rules lefts sizes rights G) (hG : okG G) {till n : Nat} (htill : till < 2 ^ 31) (hn : n < 8) {N0 : Nat} (hN0 : 30 < N0) (k8 : Int32 → Option c5T) : ∀ (k t m N : Nat), t + k = 9 → k < N → m ≤ till → m + (CLf G E F W (n * 9 + t) k).length + 60 < 2 ^ 30 → itr2 (bX12_conflicts_13 N0 (nI till) rules lefts sizes rights E F W (nI n) k8) N (nI m) (nI t) = fmR (CLf G E F W (n * 9 + t) k) till m (rtC till) (fun m' => k8 (nI m')) := by
  have hl := hG.1
  intro k
  induction k with
  | zero =>
    intro t m N ht hN hm hb
    obtain ⟨M, rfl⟩ : ∃ M, N = M + 1 := ⟨N - 1, by omega⟩
    have : t = 9 := by omega
    subst this
    rw [itr2_S]
    simp only [bX12_conflicts_13]
    rw [if_pos (by decide)]
    symm
    exact fmR_nil _ _ _ _
  | succ k ih =>
    intro t m N ht hN hm hb
    obtain ⟨M, rfl⟩ : ∃ M, N = M + 1 := ⟨N - 1, by omega⟩
    have e1 : (n * 9 + t) / 9 = n := by omega
    have e2 : (n * 9 + t) % 9 = t := by omega
    rw [CLf_S, e1, e2, List.length_append, List.length_map] at hb
    rw [itr2_S, CLf_S, e1, e2, fmR_app, fmR_map]
    have hnl : ¬ (8 : Int32) < nI t := by show ¬ nI 8 < nI t; exact nI_nlt (by omega) (by decide)
    simp only [bX12_conflicts_13]
    rw [if_neg hnl]
    simp only [jn_, lt_, nI_1]
    have hP := m_cP hM hG htill hn hN0 (E := E) (F := F) (W := W) (t := t) (fun v12 => itr2 (bX12_conflicts_13 N0 (nI till) rules lefts sizes rights E F W (nI n) k8) M v12 (nI (t + 1))) G.length 0 m N0 (by omega) (by omega) hm (by
      have : (CPf G (po G E F W n t) 0 G.length).length = (CP G (po G E F W n t)).length := rfl
      omega)
    refine Eq.trans hP ?_
    have hf : (fun pq : Nat × Nat => rt5 till n t pq.1 pq.2) = fun pq => rtC till (n * 9 + t, pq.1, pq.2) := by
      funext pq
      unfold rtC
      simp only [e1, e2]
    rw [hf]
    refine fmR_ext (fun hle => ?_) hm
    exact ih (t + 1) _ M (by omega) (by omega) hle (by
      have : (CPf G (po G E F W n t) 0 G.length).length = (CP G (po G E F W n t)).length := rfl
      have e3 : n * 9 + (t + 1) = n * 9 + t + 1 := by omega
      rw [e3]
      omega)
theorem CLf_app (a k l : Nat) : CLf G E F W a (k + l) = CLf G E F W a k ++ CLf G E F W (a + k) l := by
  unfold CLf
  rw [← List.range'_append, List.flatMap_append, Nat.one_mul]
theorem m_cN (hM : RM rules lefts sizes rights G) (hG : okG G) {till : Nat} (htill : till < 2 ^ 31) {N0 : Nat} (hN0 : 30 < N0) (k2 : Int32 → Option c5T) : ∀ (k n m N : Nat), n + k = 8 → k < N → m ≤ till → m + (CLf G E F W (n * 9) (9 * k)).length + 60 < 2 ^ 30 → itr2 (bX12_conflicts_4 N0 (nI till) rules lefts sizes rights E F W k2) N (nI m) (nI n) = fmR (CLf G E F W (n * 9) (9 * k)) till m (rtC till) (fun m' => k2 (nI m')) := by
  intro k
  induction k with
  | zero =>
    intro n m N hn hN hm hb
    obtain ⟨M, rfl⟩ : ∃ M, N = M + 1 := ⟨N - 1, by omega⟩
    have : n = 8 := by omega
    subst this
    rw [itr2_S]
    simp only [bX12_conflicts_4]
    rw [if_pos (by decide)]
    symm
    exact fmR_nil _ _ _ _
  | succ k ih =>
    intro n m N hn hN hm hb
    obtain ⟨M, rfl⟩ : ∃ M, N = M + 1 := ⟨N - 1, by omega⟩
    have e : CLf G E F W (n * 9) (9 * (k + 1)) = CLf G E F W (n * 9) 9 ++ CLf G E F W ((n + 1) * 9) (9 * k) := by
      have h1 : 9 * (k + 1) = 9 + 9 * k := by omega
      have h2 : (n + 1) * 9 = n * 9 + 9 := by omega
      rw [h1, h2, CLf_app]
    rw [e, List.length_append] at hb
    rw [itr2_S, e, fmR_app]
    simp only [bX12_conflicts_4]
    rw [if_neg (nleL 8 8 (by omega))]
    simp only [jn_, lt_, nI_1]
    have e0 : n * 9 + 0 = n * 9 := Nat.add_zero _
    have hT := m_cT hM hG htill (show n < 8 by omega) hN0 (E := E) (F := F) (W := W) (fun v6 => itr2 (bX12_conflicts_4 N0 (nI till) rules lefts sizes rights E F W k2) M v6 (nI (n + 1))) 9 0 m N0 (by omega) (by omega) hm (by rw [e0]; omega)
    rw [e0] at hT
    refine Eq.trans hT ?_
    refine fmR_ext (fun hle => ?_) hm
    exact ih (n + 1) _ M (by omega) (by omega) hle (by omega)
theorem m_conflicts (hM : RM rules lefts sizes rights G) (hG : okG G) {till : Nat} (htill : till < 2 ^ 31) (a b c d : Int32) {N : Nat} (hN : 30 < N) : fX12_conflicts N rules lefts sizes rights E F W a b c d (nI till) = fmR (CL G E F W) till 0 (rtC till) (fun m' => some (nI m', a, b, c, d)) := by
  have hle := CL_le (E := E) (F := F) (W := W) hG
  simp only [fX12_conflicts, jn_]
  exact m_cN hM hG htill hN _ 8 0 0 N (by omega) (by omega) (Nat.zero_le _) (by
    have : (CLf G E F W (0 * 9) (9 * 8)).length = (CL G E F W).length := rfl
    omega)
theorem m_conflictMany (hM : RM rules lefts sizes rights G) (hG : okG G) (a b c d : Int32) {N : Nat} (hN : 30 < N) : fX12_conflictMany N rules lefts sizes rights E F W a b c d = some (nI (CL G E F W).length, a, b, c, d) := by
  have hle := CL_le (E := E) (F := F) (W := W) hG
  have h := m_conflicts hM hG (till := 1048576) (by decide) a b c d (E := E) (F := F) (W := W) hN
  have z : (nI 1048576 : Int32) = 1048576 := rfl
  rw [z, fmR_none (List.getElem?_eq_none (by omega)), Nat.zero_add] at h
  simp only [fX12_conflictMany, h, bd5, obs]
theorem m_isConflict (hM : RM rules lefts sizes rights G) (hG : okG G) (a b c d x : Int32) {N : Nat} (hN : 30 < N) : (inI x (CL G E F W).length = false ∧ fX12_isConflict N rules lefts sizes rights E F W a b c d x = some (0, a, b, c, d)) ∨ ∃ i y, x = nI i ∧ i < (CL G E F W).length ∧ (CL G E F W)[i]? = some y ∧ fX12_isConflict N rules lefts sizes rights E F W a b c d x = some (1, nI (y.1 / 9), nI (y.1 % 9), nI y.2.1, nI y.2.2) := by
  have hle := CL_le (E := E) (F := F) (W := W) hG
  by_cases h0 : x < 0
  · left
    refine ⟨?_, ?_⟩
    · cases hi : inI x (CL G E F W).length with
      | false => rfl
      | true =>
        obtain ⟨j, hj, rfl⟩ := inI_of (by omega) hi
        exact absurd h0 (nI_pos (by omega))
    · simp only [fX12_isConflict, jn5, jn4]
      rw [if_pos h0]
      unfold gz
      rw [if_pos (Or.inl rfl)]
  · obtain ⟨i, hi, rfl⟩ := nI_of h0
    have h := m_conflicts hM hG hi a b c d (E := E) (F := F) (W := W) hN
    by_cases hlt : i < (CL G E F W).length
    · right
      have e1 : (CL G E F W)[i]? = some (CL G E F W)[i] := List.getElem?_eq_getElem hlt
      refine ⟨i, _, rfl, hlt, e1, ?_⟩
      rw [fmR_some (x := (CL G E F W)[i]) (by rw [Nat.sub_zero]; exact e1)] at h
      simp only [fX12_isConflict, jn5, jn4]
      rw [if_neg h0, h]
      unfold rtC rt5
      simp only [bd5, obs]
      rw [if_neg (nI_ge (by omega) (by omega))]
      unfold gz
      rw [if_pos (Or.inr rfl)]
    · left
      refine ⟨?_, ?_⟩
      · cases hx : inI (nI i) (CL G E F W).length with
        | false => rfl
        | true =>
          obtain ⟨j, hj, e⟩ := inI_of (by omega) hx
          rw [nI_eq hi (by omega)] at e
          omega
      · rw [fmR_none (List.getElem?_eq_none (by omega)), Nat.zero_add] at h
        simp only [fX12_isConflict, jn5, jn4]
        rw [if_neg h0, h]
        simp only [bd5, obs]
        rw [if_pos (nI_le (by omega) hi)]
        unfold gz
        rw [if_pos (Or.inl rfl)]
end MCF
