/-! ENTRIES AND CONFLICTS: one list, both sides go through it -/
def oE (o : Option Nat) : Int32 := match o with
  | some r => nI r
  | none => -2
theorem pcR_fst (P : Nat → Bool) : ∀ n, pcR P n = 0 ↔ (List.range' 0 n).find? P = none
  | 0 => by simp [pcR]
  | n + 1 => by
    have ih := pcR_fst P n
    rw [List.range'_concat, List.find?_append]
    simp only [pcR, Nat.zero_add, Nat.one_mul]
    cases hp : P n with
    | true =>
      simp [hp]
    | false =>
      simp only [Bool.false_eq_true, if_false, Nat.add_zero]
      rw [ih]
      simp [hp]
/-- the second places behind p -/
def PLq (G : List gP) (P : Nat → Bool) (p : Nat) : List Nat := if P p = true then (List.range' (p + 1) (G.length - (p + 1))).filter P else []
def CPf (G : List gP) (P : Nat → Bool) (a k : Nat) : List (Nat × Nat) := (List.range' a k).flatMap fun p => (PLq G P p).map fun q => (p, q)
def CP (G : List gP) (P : Nat → Bool) : List (Nat × Nat) := CPf G P 0 G.length
theorem flen (P : Nat → Bool) : ∀ n a, ((List.range' a n).filter P).length = pcR (fun i => P (a + i)) n
  | 0, a => rfl
  | n + 1, a => by
    have ih := flen P n a
    rw [List.range'_concat, List.filter_append, List.length_append, ih]
    simp only [pcR, Nat.one_mul]
    by_cases hp : P (a + n) = true
    · rw [if_pos hp]; simp [hp]
    · rw [if_neg hp]; simp [hp]
theorem CPf_len (G : List gP) (P : Nat → Bool) : ∀ k a, a + k = G.length → (CPf G P a k).length = pr ((List.range' a k).filter P).length
  | 0, a, _ => rfl
  | k + 1, a, h => by
    have ih := CPf_len G P k (a + 1) (by omega)
    have e : CPf G P a (k + 1) = ((PLq G P a).map fun q => (a, q)) ++ CPf G P (a + 1) k := by
      unfold CPf
      rw [List.range'_succ, List.flatMap_cons]
    rw [e, List.length_append, List.length_map, ih, List.range'_succ]
    unfold PLq
    have hk : G.length - (a + 1) = k := by omega
    rw [hk]
    cases hp : P a with
    | true =>
      rw [if_pos rfl, List.filter_cons_of_pos hp]
      simp only [List.length_cons, pr]
      omega
    | false =>
      rw [if_neg (by decide), List.filter_cons_of_neg (by simp [hp])]
      simp
theorem CP_len (G : List gP) (P : Nat → Bool) : (CP G P).length = pr (pcR P G.length) := by
  unfold CP
  rw [CPf_len G P G.length 0 (by omega), flen P G.length 0]
  have : (fun i => P (0 + i)) = P := by funext i; rw [Nat.zero_add]
  rw [this]
section EC
variable {codes : Nat → Int32} {count rules : Int32} {lefts sizes rights : Nat → Int32} {G : List gP} {E : Int32} {F W : Nat → Int32}
theorem c_entry (hG : okG G) {se ps lo : Nat → Int32} (h : TBx G E F W 0 se ps lo) {n t : Nat} (hn : n < 8) (ht : t < 9) : fX8_entry ps lo (nI n) (nI t) = some (oE ((List.range' 0 G.length).find? (po G E F W n t))) := by
  have hl := hG.1
  have e9 : nI n * (9 : Int32) = nI (n * 9) := pk_mul n 9
  have h2 := h.2.1 n t hn ht
  have z : pcR (po G E F W n t) 0 = 0 := rfl
  rw [z, Nat.sub_zero] at h2
  have h3 := h.2.2 n t hn ht
  rw [Nat.sub_zero] at h3
  have hle := pcR_le (po G E F W n t) G.length
  have hz := pcR_fst (po G E F W n t) G.length
  have hc : n * 9 + t < 72 := by omega
  simp only [fX8_entry, e9, nI_add, lt_, ag_ok hc, obs, h2, jn_]
  cases hf : (List.range' 0 G.length).find? (po G E F W n t) with
  | none =>
    rw [hz.mpr hf, if_pos (by decide)]
    rfl
  | some r =>
    have : pcR (po G E F W n t) G.length ≠ 0 := fun q => by rw [hz] at q; rw [hf] at q; simp at q
    rw [if_neg (nI_nle (by omega) (by omega)), h3 r hf]
    rfl
theorem m_selects (hM : RM rules lefts sizes rights G) (hG : okG G) {p : Nat} (hp : p < G.length) {N : Nat} (hN : 5 < N) : fX12_selects N lefts sizes rights E F W (nI p) = some (sel E F W (gp G p)) := by
  have hl := hG.1
  have hq := okG_gp hG hp
  simp only [fX12_selects, m_firstOf0 hM hG E F hp hN, m_areEmpty0 hM hG E hp hN, obs, jn_]
  unfold sel
  cases van E (gp G p).2 with
  | false => rw [if_pos (by rfl), if_neg (by decide)]
  | true =>
    rw [if_neg (by decide), if_pos rfl, ag_ok (show p < 24 by omega)]
    simp only [obs, (hM.2 p hp).1, ag_ok hq.1]
theorem po_eq {n t p : Nat} : po G E F W n t p = true ↔ (gp G p).1 = n ∧ tb (sel E F W (gp G p)) t = true := by
  unfold po
  rw [Bool.and_eq_true, decide_eq_true_eq]
theorem m_entry (hM : RM rules lefts sizes rights G) (hG : okG G) {n t : Nat} (hn : n < 8) {N : Nat} (hN : 30 < N) : fX12_entry N rules lefts sizes rights E F W (nI n) (nI t) = some (oE ((List.range' 0 G.length).find? (po G E F W n t))) := by
  have hl := hG.1
  simp only [fX12_entry, jn_]
  have h := srch (B := bX12_entry_2 N (nI n) (nI t) rules lefts sizes rights E F W fun _ => some (-2)) G.length N (by omega) (po G E F W n t) (fun i => some (nI i)) (some (-2)) ?_ ?_
  · refine Eq.trans h ?_
    unfold fstI
    rw [List.range_eq_range']
    cases (List.range' 0 G.length).find? (po G E F W n t) <;> rfl
  · intro p hp rc
    have h8 := (okG_gp hG hp).1
    simp only [bX12_entry_2]
    rw [hM.1, if_neg (nI_ge hp (by omega)), ag_ok (show p < 24 by omega)]
    simp only [obs, (hM.2 p hp).1, jn_, m_selects hM hG hp (show 5 < N by omega), bit01, lt_, nI_1]
    by_cases e : (gp G p).1 = n
    · rw [if_pos (by rw [e])]
      cases ht : tb (sel E F W (gp G p)) t with
      | true => rw [if_pos (by rfl), if_pos (po_eq.mpr ⟨e, ht⟩)]
      | false => rw [if_neg (by decide), if_neg (fun q => by have := (po_eq.mp q).2; rw [ht] at this; exact absurd this (by decide))]
    · rw [if_neg (by rw [nI_eq (by omega) (by omega)]; exact e), if_neg (fun q => e (po_eq.mp q).1)]
  · intro rc
    simp only [bX12_entry_2]
    rw [hM.1, if_pos (Int32.le_refl _)]
-- a conflict as a number
def cfI (c p q : Nat) : Nat := (((c / 9) * 32 + c % 9) * 32 + p) * 32 + q
theorem or_nat {a b k : Nat} (hb : b < 2 ^ k) : nI (a * 2 ^ k) ||| nI b = nI (a * 2 ^ k + b) := by
  have h : nI (a * 2 ^ k) ||| nI b = nI (a * 2 ^ k ||| b) := by
    apply Int32.toBitVec_inj.mp
    show (BitVec.ofNat 32 _) ||| (BitVec.ofNat 32 _) = BitVec.ofNat 32 _
    rw [BitVec.ofNat_or]
  rw [h]
  congr 1
  rw [← Nat.shiftLeft_eq, Nat.shiftLeft_add_eq_or_of_lt hb]
theorem c_conflictOf {c p q : Nat} (hc : c < 72) (hp : p < 24) (hq : q < 24) : fX8_conflictOf (nI c) (nI p) (nI q) = some (nI (cfI c p q)) := by
  have e1 : nI c / (9 : Int32) = nI (c / 9) := pk_div (d := 9) (by omega) (by decide) (by decide)
  have e2 : nI c - nI c / (9 : Int32) * (9 : Int32) = nI (c % 9) := pk_rem (d := 9) (by omega) (by decide) (by decide)
  have sh : ∀ a, a * 2 ^ 5 < 2 ^ 32 → nI a <<< ((5 : Int32) &&& (31 : Int32)) = nI (a * 2 ^ 5) := fun a ha => shl_nI (j := 5) (by decide) ha
  simp only [fX8_conflictOf, lt_]
  rw [e2, e1, sh _ (by omega), or_nat (show c % 9 < 2 ^ 5 by omega), sh _ (by omega), or_nat (show p < 2 ^ 5 by omega), sh _ (by omega), or_nat (show q < 2 ^ 5 by omega)]
  rfl
theorem c_partOf {c p q : Nat} (hc : c < 72) (hp : p < 24) (hq : q < 24) : fX8_partOf (nI (cfI c p q)) 0 = some (nI (c / 9)) ∧ fX8_partOf (nI (cfI c p q)) 1 = some (nI (c % 9)) ∧ fX8_partOf (nI (cfI c p q)) 2 = some (nI p) ∧ fX8_partOf (nI (cfI c p q)) 3 = some (nI q) := by
  have hlt : cfI c p q < 2 ^ 31 := by unfold cfI; omega
  have sh : ∀ j, j < 32 → nI (cfI c p q) >>> (nI j &&& (31 : Int32)) = nI (cfI c p q / 2 ^ j) := fun j hj => shr_nI hlt hj
  have an : ∀ a, a < 2 ^ 32 → nI a &&& (31 : Int32) = nI (a % 2 ^ 5) := fun a ha => pk_andN ha 5 (by decide)
  have d0 : (5 : Int32) * ((3 : Int32) - 0) = nI 15 := by decide
  have d1 : (5 : Int32) * ((3 : Int32) - 1) = nI 10 := by decide
  have d2 : (5 : Int32) * ((3 : Int32) - 2) = nI 5 := by decide
  have d3 : (5 : Int32) * ((3 : Int32) - 3) = nI 0 := by decide
  refine ⟨?_, ?_, ?_, ?_⟩
  · simp only [fX8_partOf]
    rw [d0, sh 15 (by decide), an _ (by have := Nat.div_le_self (cfI c p q) (2 ^ 15); omega)]
    congr 2; unfold cfI; omega
  · simp only [fX8_partOf]
    rw [d1, sh 10 (by decide), an _ (by have := Nat.div_le_self (cfI c p q) (2 ^ 10); omega)]
    congr 2; unfold cfI; omega
  · simp only [fX8_partOf]
    rw [d2, sh 5 (by decide), an _ (by have := Nat.div_le_self (cfI c p q) (2 ^ 5); omega)]
    congr 2; unfold cfI; omega
  · simp only [fX8_partOf]
    rw [d3, sh 0 (by decide), an _ (by have := Nat.div_le_self (cfI c p q) (2 ^ 0); omega)]
    congr 2; unfold cfI; omega
end EC
