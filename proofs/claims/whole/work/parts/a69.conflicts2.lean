/-! CONFLICTS: both sides find the i-th of one list -/
section CF
variable {codes : Nat → Int32} {count rules : Int32} {lefts sizes rights : Nat → Int32} {G : List gP} {E : Int32} {F W : Nat → Int32}
theorem c_isPossible (hc : RC codes count G) (hG : okG G) {se : Nat → Int32} (hs : ∀ p, p < G.length → se p = sel E F W (gp G p)) {p c : Nat} (hp : p < G.length) (hcc : c < 72) : fX8_isPossible codes se (nI p) (nI c) = some (b01 (po G E F W (c / 9) (c % 9) p)) := by
  have hl := hG.1
  have hq := okG_gp hG hp
  have e1 : nI c / (9 : Int32) = nI (c / 9) := pk_div (d := 9) (by omega) (by decide) (by decide)
  have e2 : nI c - nI c / (9 : Int32) * (9 : Int32) = nI (c % 9) := pk_rem (d := 9) (by omega) (by decide) (by decide)
  simp only [fX8_isPossible, ag_ok (show p < 24 by omega), obs, hc.2 p hp, jn_]
  rw [e2, e1, c_isOf hq (by omega)]
  simp only [obs, hs p hp, c_bit]
  unfold po gz
  by_cases e : (gp G p).1 = c / 9
  · rw [if_neg (by simp [b01, e])]
    cases tb (sel E F W (gp G p)) (c % 9) with
    | true => simp [b01, e]
    | false => simp [b01, e]
  · rw [if_pos (by simp [b01, e])]
    simp [b01, e]
theorem itr2_S {A0 A1 ρ : Type} (B : (A0 → A1 → Option ρ) → A0 → A1 → Option ρ) (M : Nat) (a0 : A0) (a1 : A1) : itr2 B (M + 1) a0 a1 = B (itr2 B M) a0 a1 := rfl
def fnd {α : Type} (L : List α) (i : Nat) (f : α → Option Int32) (g : Nat → Option Int32) : Option Int32 := match L[i]? with
  | some x => f x
  | none => g (i - L.length)
theorem fnd_none {α : Type} {L : List α} {i : Nat} {f : α → Option Int32} {g : Nat → Option Int32} (h : L[i]? = none) : fnd L i f g = g (i - L.length) := by
  unfold fnd
  rw [h]
theorem fnd_some {α : Type} {L : List α} {i : Nat} {f : α → Option Int32} {g : Nat → Option Int32} {x : α} (h : L[i]? = some x) : fnd L i f g = f x := by
  unfold fnd
  rw [h]
theorem fnd_nil {α : Type} (i : Nat) (f : α → Option Int32) (g : Nat → Option Int32) : fnd [] i f g = g i := by
  unfold fnd
  simp
theorem fnd_app {α : Type} (A B : List α) (i : Nat) (f : α → Option Int32) (g : Nat → Option Int32) : fnd (A ++ B) i f g = fnd A i f (fun j => fnd B j f g) := by
  unfold fnd
  rw [List.getElem?_append]
  by_cases h : i < A.length
  · rw [if_pos h, List.getElem?_eq_getElem h]
  · have hA : A[i]? = none := List.getElem?_eq_none (by omega)
    rw [if_neg h, hA]
    simp only [List.length_append]
    have : i - (A.length + B.length) = i - A.length - B.length := by omega
    rw [this]
theorem fnd_map {α β : Type} (A : List α) (h : α → β) (i : Nat) (f : β → Option Int32) (g : Nat → Option Int32) : fnd (A.map h) i f g = fnd A i (fun x => f (h x)) g := by
  unfold fnd
  rw [List.getElem?_map, List.length_map]
  cases A[i]? <;> rfl
theorem c_walkQ (hc : RC codes count G) (hG : okG G) {se : Nat → Int32} (hs : ∀ p, p < G.length → se p = sel E F W (gp G p)) {p c : Nat} (hp : p < G.length) (hcc : c < 72) (hpo : po G E F W (c / 9) (c % 9) p = true) (k9 : Int32 → Option Int32) : ∀ (k q rest N : Nat), q + k = G.length → k < N → rest < 2 ^ 31 → itr2 (bX8_conflictIn_23 (nI c) codes count se (nI p) k9) N (nI rest) (nI q) = fnd ((List.range' q k).filter (po G E F W (c / 9) (c % 9))) rest (fun q' => some (nI (cfI c p q'))) (fun j => k9 (nI j)) := by
  have hl := hG.1
  intro k
  induction k with
  | zero =>
    intro q rest N hq hN hr
    obtain ⟨M, rfl⟩ : ∃ M, N = M + 1 := ⟨N - 1, by omega⟩
    show bX8_conflictIn_23 (nI c) codes count se (nI p) k9 _ (nI rest) (nI q) = _
    simp only [bX8_conflictIn_23]
    rw [hc.1, if_pos (by rw [← hq]; exact Int32.le_refl _)]
    symm
    exact fnd_nil _ _ _
  | succ k ih =>
    intro q rest N hq hN hr
    obtain ⟨M, rfl⟩ : ∃ M, N = M + 1 := ⟨N - 1, by omega⟩
    show bX8_conflictIn_23 (nI c) codes count se (nI p) k9 (itr2 _ M) (nI rest) (nI q) = _
    simp only [bX8_conflictIn_23]
    rw [hc.1, if_neg (nI_ge (by omega) (by omega)), c_isPossible hc hG hs hp hcc, ← hc.1]
    simp only [obs, hpo, c_isPossible hc hG hs (show q < G.length by omega) hcc, jn_, lt_]
    rw [if_neg (by decide), List.range'_succ]
    by_cases hq2 : po G E F W (c / 9) (c % 9) q = true
    · rw [hq2, if_neg (by decide), List.filter_cons_of_pos hq2]
      by_cases h0 : rest = 0
      · subst h0
        rw [if_pos (by rfl), c_conflictOf hcc (by omega) (by omega)]
        rfl
      · rw [if_neg (nI_ne0 (by omega) hr), nI_subm (by omega), nI_1]
        have := ih (q + 1) (rest - 1) M (by omega) (by omega) (by omega)
        refine Eq.trans this ?_
        unfold fnd
        obtain ⟨r, rfl⟩ : ∃ r, rest = r + 1 := ⟨rest - 1, by omega⟩
        simp only [List.getElem?_cons_succ, List.length_cons, Nat.add_sub_cancel]
        have e : ∀ x, r + 1 - (x + 1) = r - x := fun x => by omega
        rw [e]
    · have hq2' : po G E F W (c / 9) (c % 9) q = false := by simpa using hq2
      rw [hq2', if_pos (by rfl), List.filter_cons_of_neg hq2, nI_1]
      exact ih (q + 1) rest M (by omega) (by omega) hr
theorem c_walkQ0 (hc : RC codes count G) (hG : okG G) {se : Nat → Int32} (hs : ∀ p, p < G.length → se p = sel E F W (gp G p)) {p c : Nat} (hp : p < G.length) (hcc : c < 72) (hpo : po G E F W (c / 9) (c % 9) p = false) (k9 : Int32 → Option Int32) (q rest N : Nat) (hq : q ≤ G.length) (hN : 0 < N) : itr2 (bX8_conflictIn_23 (nI c) codes count se (nI p) k9) N (nI rest) (nI q) = k9 (nI rest) := by
  have hl := hG.1
  obtain ⟨M, rfl⟩ : ∃ M, N = M + 1 := ⟨N - 1, by omega⟩
  show bX8_conflictIn_23 (nI c) codes count se (nI p) k9 (itr2 _ M) (nI rest) (nI q) = _
  simp only [bX8_conflictIn_23]
  by_cases h : q = G.length
  · rw [hc.1, if_pos (by rw [h]; exact Int32.le_refl _)]
  · rw [hc.1, if_neg (nI_ge (by omega) (by omega)), c_isPossible hc hG hs hp hcc, hpo]
    simp only [obs]
    rw [if_pos (by rfl)]
theorem c_walkP (hc : RC codes count G) (hG : okG G) {se : Nat → Int32} (hs : ∀ p, p < G.length → se p = sel E F W (gp G p)) {c : Nat} (hcc : c < 72) {N0 : Nat} (hN0 : 30 < N0) : ∀ (k p rest N : Nat), p + k = G.length → k < N → rest < 2 ^ 31 → itr2 (bX8_conflictIn_5 N0 (nI c) codes count se fun _ => some (-1)) N (nI rest) (nI p) = fnd (CPf G (po G E F W (c / 9) (c % 9)) p k) rest (fun pq => some (nI (cfI c pq.1 pq.2))) (fun _ => some (-1)) := by
  have hl := hG.1
  intro k
  induction k with
  | zero =>
    intro p rest N hp hN hr
    obtain ⟨M, rfl⟩ : ∃ M, N = M + 1 := ⟨N - 1, by omega⟩
    rw [itr2_S]
    simp only [bX8_conflictIn_5]
    rw [hc.1, if_pos (by rw [← hp]; exact Int32.le_refl _)]
    symm
    exact fnd_nil _ _ _
  | succ k ih =>
    intro p rest N hp hN hr
    obtain ⟨M, rfl⟩ : ∃ M, N = M + 1 := ⟨N - 1, by omega⟩
    rw [itr2_S]
    have e : CPf G (po G E F W (c / 9) (c % 9)) p (k + 1) = ((PLq G (po G E F W (c / 9) (c % 9)) p).map fun q => (p, q)) ++ CPf G (po G E F W (c / 9) (c % 9)) (p + 1) k := by
      unfold CPf
      rw [List.range'_succ, List.flatMap_cons]
    have hk : G.length - (p + 1) = k := by omega
    simp only [bX8_conflictIn_5]
    rw [hc.1, if_neg (nI_ge (by omega) (by omega)), ← hc.1, e, fnd_app, fnd_map]
    simp only [lt_, jn_, nI_1]
    unfold PLq
    rw [hk]
    by_cases hpo : po G E F W (c / 9) (c % 9) p = true
    · rw [c_walkQ hc hG hs (show p < G.length by omega) hcc hpo _ k (p + 1) rest N0 (by omega) (by omega) hr, if_pos hpo]
      unfold fnd
      cases ((List.range' (p + 1) k).filter (po G E F W (c / 9) (c % 9)))[rest]? with
      | some q' => rfl
      | none => exact ih (p + 1) _ M (by omega) (by omega) (by omega)
    · have hpo' : po G E F W (c / 9) (c % 9) p = false := by simpa using hpo
      rw [c_walkQ0 hc hG hs (show p < G.length by omega) hcc hpo' _ (p + 1) rest N0 (by omega) (by omega), if_neg hpo, fnd_nil]
      exact ih (p + 1) rest M (by omega) (by omega) hr
def CLf (G : List gP) (E : Int32) (F W : Nat → Int32) (a k : Nat) : List (Nat × Nat × Nat) := (List.range' a k).flatMap fun c => (CP G (po G E F W (c / 9) (c % 9))).map fun pq => (c, pq.1, pq.2)
def CL (G : List gP) (E : Int32) (F W : Nat → Int32) : List (Nat × Nat × Nat) := CLf G E F W 0 72
theorem CLf_S (a k : Nat) : CLf G E F W a (k + 1) = ((CP G (po G E F W (a / 9) (a % 9))).map fun pq => (a, pq.1, pq.2)) ++ CLf G E F W (a + 1) k := by
  unfold CLf
  rw [List.range'_succ, List.flatMap_cons]
theorem c_walkC (hc : RC codes count G) (hG : okG G) {se ps lo : Nat → Int32} (hT : TBx G E F W 0 se ps lo) {N0 : Nat} (hN0 : 30 < N0) : ∀ (k c rest N : Nat), c + k = 72 → k < N → rest < 2 ^ 31 → itr2 (bX8_conflictAt_4 N0 codes count se ps fun _ => some (-1)) N (nI rest) (nI c) = fnd (CLf G E F W c k) rest (fun x => some (nI (cfI x.1 x.2.1 x.2.2))) (fun _ => some (-1)) := by
  have hl := hG.1
  have hs : ∀ p, p < G.length → se p = sel E F W (gp G p) := fun p hp => hT.1 p (Nat.zero_le _) hp
  intro k
  induction k with
  | zero =>
    intro c rest N hcc hN hr
    obtain ⟨M, rfl⟩ : ∃ M, N = M + 1 := ⟨N - 1, by omega⟩
    have : c = 72 := by omega
    subst this
    rw [itr2_S]
    simp only [bX8_conflictAt_4]
    rw [if_pos (by decide)]
    symm
    exact fnd_nil _ _ _
  | succ k ih =>
    intro c rest N hcc hN hr
    obtain ⟨M, rfl⟩ : ∃ M, N = M + 1 := ⟨N - 1, by omega⟩
    have hc72 : c < 72 := by omega
    rw [itr2_S]
    have hlen := CP_len G (po G E F W (c / 9) (c % 9))
    have hpr := pr_le (pcR (po G E F W (c / 9) (c % 9)) G.length) (by have := pcR_le (po G E F W (c / 9) (c % 9)) G.length; omega)
    simp only [bX8_conflictAt_4]
    rw [if_neg (nleL 72 72 hc72), c_pairsIn hG hT hc72, CLf_S, fnd_app, fnd_map]
    simp only [obs, lt_, nI_1]
    by_cases hle : pr (pcR (po G E F W (c / 9) (c % 9)) G.length) ≤ rest
    · rw [if_pos (nI_le hle hr), pk_sub hle]
      have := ih (c + 1) (rest - pr (pcR (po G E F W (c / 9) (c % 9)) G.length)) M (by omega) (by omega) (by omega)
      refine Eq.trans this ?_
      have e1 : (CP G (po G E F W (c / 9) (c % 9)))[rest]? = none := List.getElem?_eq_none (by rw [hlen]; exact hle)
      rw [fnd_none e1, hlen]
    · rw [if_neg (nI_ge (by omega) (by omega))]
      have hw := c_walkP hc hG hs hc72 hN0 G.length 0 rest N0 (by omega) (by omega) hr
      have hci : fX8_conflictIn N0 codes count se (nI c) (nI rest) = fnd (CPf G (po G E F W (c / 9) (c % 9)) 0 G.length) rest (fun pq => some (nI (cfI c pq.1 pq.2))) (fun _ => some (-1)) := by
        simp only [fX8_conflictIn, jn_]
        exact hw
      rw [hci]
      have hlt : rest < (CP G (po G E F W (c / 9) (c % 9))).length := by rw [hlen]; omega
      have e1 := List.getElem?_eq_getElem hlt
      unfold CP at e1
      unfold fnd CP
      rw [e1]
      rfl
theorem c_conflictAt (hc : RC codes count G) (hG : okG G) {se ps lo : Nat → Int32} (hT : TBx G E F W 0 se ps lo) {i : Nat} (hi : i < 2 ^ 31) {N : Nat} (hN : 100 < N) : fX8_conflictAt N codes count se ps (nI i) = fnd (CL G E F W) i (fun x => some (nI (cfI x.1 x.2.1 x.2.2))) (fun _ => some (-1)) := by
  simp only [fX8_conflictAt, jn_]
  exact c_walkC hc hG hT (show 30 < N by omega) 72 0 i N (by omega) (by omega) hi
theorem CLf_len (k : Nat) : ∀ a, (CLf G E F W a k).length = smN (fun d => pr (pcR (po G E F W ((a + d) / 9) ((a + d) % 9)) G.length)) k := by
  induction k with
  | zero => intro a; rfl
  | succ k ih =>
    intro a
    have e : CLf G E F W a (k + 1) = CLf G E F W a k ++ ((CP G (po G E F W ((a + k) / 9) ((a + k) % 9))).map fun pq => (a + k, pq.1, pq.2)) := by
      unfold CLf
      rw [List.range'_concat, List.flatMap_append, Nat.one_mul]
      simp
    rw [e, List.length_append, ih a, List.length_map, CP_len]
    rfl
theorem CL_len : (CL G E F W).length = smN (fun c => pr (pcR (po G E F W (c / 9) (c % 9)) G.length)) 72 := by
  unfold CL
  rw [CLf_len 72 0]
  have : (fun d => pr (pcR (po G E F W ((0 + d) / 9) ((0 + d) % 9)) G.length)) = fun c => pr (pcR (po G E F W (c / 9) (c % 9)) G.length) := by funext c; rw [Nat.zero_add]
  rw [this]
theorem CL_le (hG : okG G) : (CL G E F W).length ≤ 72 * 276 := by
  rw [CL_len]
  refine smN_top _ 276 72 fun c _ => pr_le _ ?_
  have := pcR_le (po G E F W (c / 9) (c % 9)) G.length
  have := hG.1
  omega
end CF
