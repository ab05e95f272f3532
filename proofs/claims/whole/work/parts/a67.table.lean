/-! THE TABLE: select sets, how many productions a cell has, the lowest -/
def sel (E : Int32) (F W : Nat → Int32) (q : gP) : Int32 := frst E F q.2 ||| (if van E q.2 = true then W q.1 else 0)
def po (G : List gP) (E : Int32) (F W : Nat → Int32) (n t p : Nat) : Bool := decide ((gp G p).1 = n) && tb (sel E F W (gp G p)) t
def pr : Nat → Nat
  | 0 => 0
  | c + 1 => pr c + c
theorem pr_two : ∀ c, 2 * pr c = c * (c - 1)
  | 0 => rfl
  | c + 1 => by
    have ih := pr_two c
    simp only [pr]
    rw [Nat.mul_add, ih]
    show c * (c - 1) + 2 * c = (c + 1) * c
    cases c with
    | zero => rfl
    | succ d =>
      show (d + 1) * d + 2 * (d + 1) = (d + 1 + 1) * (d + 1)
      rw [Nat.add_mul (d + 1) 1 (d + 1), Nat.mul_add (d + 1) d 1]
      omega
theorem pr_div (c : Nat) : c * (c - 1) / 2 = pr c := by
  rw [← pr_two c]; omega
theorem pr_le : ∀ c, c ≤ 24 → pr c ≤ 276 := by decide +kernel
theorem frst_congr {E : Int32} {F F' : Nat → Int32} (hF : ∀ n, n < 8 → F n = F' n) : ∀ (r : List Nat), (∀ s ∈ r, okS s) → frst E F r = frst E F' r
  | [], _ => rfl
  | s :: r, hr => by
    have ih := frst_congr (E := E) hF r (fun x hx => hr x (List.mem_cons_of_mem _ hx))
    have h18 := okS_lt (hr s List.mem_cons_self)
    have e : fo F s = fo F' s := by
      unfold fo
      by_cases h10 : s < 10
      · rw [if_pos h10, if_pos h10]
      · rw [if_neg h10, if_neg h10]; exact hF _ (by omega)
    simp only [frst, ih, e]
theorem sel_congr {E : Int32} {F F' W W' : Nat → Int32} (hF : ∀ n, n < 8 → F n = F' n) (hW : ∀ n, n < 8 → W n = W' n) {q : gP} (hq : okP q) : sel E F W q = sel E F' W' q := by
  unfold sel
  rw [frst_congr hF _ hq.2.2, hW _ hq.1]
section CT
variable {codes : Nat → Int32} {count : Int32} {G : List gP} {E : Int32} {F W : Nat → Int32}
theorem c_selectOf {q : gP} (hq : okP q) {N : Nat} (hN : 5 < N) : fX8_selectOf N E F W (nI (enc q)) = some (sel E F W q) := by
  simp only [fX8_selectOf, c_firstFrom0 E F hq hN, c_vanishes0 E hq hN, obs, jn_]
  unfold sel
  cases van E q.2 with
  | false => rw [if_pos (by rfl), if_neg (by decide), Int32.or_zero]
  | true =>
    rw [if_neg (by decide), if_pos rfl, c_leftOf hq]
    simp only [obs, ag_ok hq.1]
theorem pcR_mono2 (P : Nat → Bool) : ∀ a b, a ≤ b → pcR P a ≤ pcR P b
  | a, 0, h => by
    have : a = 0 := by omega
    subst this; exact Nat.le_refl _
  | a, b + 1, h => by
    by_cases e : a = b + 1
    · subst e; exact Nat.le_refl _
    · have := pcR_mono2 P a b (by omega)
      simp only [pcR]; omega
/-- what the table holds of the productions from x on -/
def TBx (G : List gP) (E : Int32) (F W : Nat → Int32) (x : Nat) (se ps lo : Nat → Int32) : Prop := (∀ p, x ≤ p → p < G.length → se p = sel E F W (gp G p)) ∧ (∀ n t, n < 8 → t < 9 → ps (n * 9 + t) = nI (pcR (po G E F W n t) G.length - pcR (po G E F W n t) x)) ∧ ∀ n t, n < 8 → t < 9 → ∀ r, (List.range' x (G.length - x)).find? (po G E F W n t) = some r → lo (n * 9 + t) = nI r
theorem c_enter (hc : RC codes count G) (hG : okG G) {x : Nat} (hx : x < G.length) {se ps lo : Nat → Int32} (hs : se x = sel E F W (gp G x)) (h2 : ∀ n t, n < 8 → t < 9 → ps (n * 9 + t) = nI (pcR (po G E F W n t) G.length - pcR (po G E F W n t) (x + 1))) (h3 : ∀ n t, n < 8 → t < 9 → ∀ r, (List.range' (x + 1) (G.length - (x + 1))).find? (po G E F W n t) = some r → lo (n * 9 + t) = nI r) {N : Nat} (hN : 30 < N) : ∃ ps' lo', fX8_enter N codes se ps lo (nI x) = some (ps', lo') ∧ (∀ n t, n < 8 → t < 9 → ps' (n * 9 + t) = nI (pcR (po G E F W n t) G.length - pcR (po G E F W n t) x)) ∧ ∀ n t, n < 8 → t < 9 → ∀ r, (List.range' x (G.length - x)).find? (po G E F W n t) = some r → lo' (n * 9 + t) = nI r := by
  have hl := hG.1
  have hq := okG_gp hG hx
  have h8 := hq.1
  have e9 : nI (gp G x).1 * (9 : Int32) = nI ((gp G x).1 * 9) := pk_mul _ 9
  have hcount : ∀ n t, pcR (po G E F W n t) G.length - pcR (po G E F W n t) x = pcR (po G E F W n t) G.length - pcR (po G E F W n t) (x + 1) + (if po G E F W n t x = true then 1 else 0) := by
    intro n t
    have h1 := pcR_mono2 (po G E F W n t) (x + 1) G.length (by omega)
    have h2 : pcR (po G E F W n t) (x + 1) = pcR (po G E F W n t) x + (if po G E F W n t x = true then 1 else 0) := rfl
    split at h2
    · rename_i hp; rw [if_pos hp]; omega
    · rename_i hp; rw [if_neg hp]; omega
  have hrange : List.range' x (G.length - x) = x :: List.range' (x + 1) (G.length - (x + 1)) := by
    have : G.length - x = (G.length - (x + 1)) + 1 := by omega
    rw [this]; rfl
  have hfind : ∀ n t, (List.range' x (G.length - x)).find? (po G E F W n t) = if po G E F W n t x = true then some x else (List.range' (x + 1) (G.length - (x + 1))).find? (po G E F W n t) := by
    intro n t
    rw [hrange, List.find?_cons]
    cases po G E F W n t x <;> rfl
  simp only [fX8_enter, ag_ok (show x < 24 by omega), obs, hc.2 x hx, c_leftOf hq, lt_, e9, jn2]
  refine vlp3 (B := bX8_enter_18 (nI x) se (nI ((gp G x).1 * 9)) fun v4 v5 => some (v4, v5)) (fun j i ps' lo' => i = nI j ∧ j ≤ 9 ∧ (∀ n t, n < 8 → t < 9 → (¬ (n = (gp G x).1 ∧ t < j) → ps' (n * 9 + t) = ps (n * 9 + t) ∧ lo' (n * 9 + t) = lo (n * 9 + t)) ∧ (n = (gp G x).1 ∧ t < j → ps' (n * 9 + t) = nI (pcR (po G E F W n t) G.length - pcR (po G E F W n t) x) ∧ lo' (n * 9 + t) = if po G E F W n t x = true then nI x else lo (n * 9 + t)))) (fun r => ∃ ps' lo', r = some (ps', lo') ∧ (∀ n t, n < 8 → t < 9 → ps' (n * 9 + t) = nI (pcR (po G E F W n t) G.length - pcR (po G E F W n t) x)) ∧ ∀ n t, n < 8 → t < 9 → ∀ r, (List.range' x (G.length - x)).find? (po G E F W n t) = some r → lo' (n * 9 + t) = nI r) 9 ?_ ?_ N 0 ps lo (by omega) ⟨rfl, by omega, fun n t hn ht => ⟨fun _ => ⟨rfl, rfl⟩, fun h => by omega⟩⟩
  · rintro j i ps' lo' hj ⟨rfl, _, hI⟩
    left
    have hold := (hI (gp G x).1 j h8 hj).1 (by omega)
    have hpo : po G E F W (gp G x).1 j x = tb (sel E F W (gp G x)) j := by simp [po]
    have hcell : (gp G x).1 * 9 + j < 72 := by omega
    have hinj : ∀ n t, n < 8 → t < 9 → (n * 9 + t = (gp G x).1 * 9 + j ↔ n = (gp G x).1 ∧ t = j) := fun n t _ _ => by omega
    cases ht : tb (sel E F W (gp G x)) j with
    | true =>
      refine ⟨nI (j + 1), upd ps' ((gp G x).1 * 9 + j) (ps' ((gp G x).1 * 9 + j) + 1), upd lo' ((gp G x).1 * 9 + j) (nI x), ⟨rfl, by omega, fun n t hn ht9 => ?_⟩, fun rc => ?_⟩
      · by_cases e : n = (gp G x).1 ∧ t = j
        · obtain ⟨rfl, rfl⟩ := e
          refine ⟨fun h => absurd ⟨rfl, by omega⟩ h, fun _ => ⟨?_, ?_⟩⟩
          · rw [pk_us, hold.1, h2 _ _ h8 hj, nI_1, hcount, hpo, ht, if_pos rfl]
          · rw [pk_us, hpo, ht, if_pos rfl]
        · rw [pk_un (fun q => e ((hinj n t hn ht9).mp q)), pk_un (fun q => e ((hinj n t hn ht9).mp q))]
          exact ⟨fun h => (hI n t hn ht9).1 (by omega), fun h => (hI n t hn ht9).2 (by omega)⟩
      · simp only [bX8_enter_18]
        rw [if_neg (nleL 9 9 hj), ag_ok (show x < 24 by omega)]
        simp only [obs, hs, c_bit, ht, jn2, lt_]
        rw [if_pos (by rfl)]
        simp only [nI_add, ag_ok hcell, as_ok hcell, obs, nI_1]
    | false =>
      refine ⟨nI (j + 1), ps', lo', ⟨rfl, by omega, fun n t hn ht9 => ?_⟩, fun rc => ?_⟩
      · by_cases e : n = (gp G x).1 ∧ t = j
        · obtain ⟨rfl, rfl⟩ := e
          refine ⟨fun h => absurd ⟨rfl, by omega⟩ h, fun _ => ⟨?_, ?_⟩⟩
          · rw [hold.1, h2 _ _ h8 hj, hcount, hpo, ht, if_neg (by decide)]
            rfl
          · rw [hold.2, hpo, ht, if_neg (by decide)]
        · exact ⟨fun h => (hI n t hn ht9).1 (by omega), fun h => (hI n t hn ht9).2 (by omega)⟩
      · simp only [bX8_enter_18]
        rw [if_neg (nleL 9 9 hj), ag_ok (show x < 24 by omega)]
        simp only [obs, hs, c_bit, ht, jn2, lt_]
        rw [if_neg (by decide), nI_1]
  · rintro i ps' lo' ⟨rfl, _, hI⟩
    refine ⟨_, ⟨ps', lo', rfl, fun n t hn ht => ?_, fun n t hn ht r hr => ?_⟩, fun rc => ?_⟩
    · by_cases e : n = (gp G x).1
      · exact ((hI n t hn ht).2 ⟨e, ht⟩).1
      · rw [((hI n t hn ht).1 (by omega)).1, h2 n t hn ht, hcount]
        have : po G E F W n t x = false := by
          unfold po
          have : ¬ (gp G x).1 = n := fun q => e q.symm
          simp [this]
        rw [this, if_neg (by decide)]
        rfl
    · rw [hfind] at hr
      by_cases e : n = (gp G x).1
      · rw [((hI n t hn ht).2 ⟨e, ht⟩).2]
        by_cases hp : po G E F W n t x = true
        · rw [if_pos hp] at hr ⊢
          rw [Option.some.inj hr]
        · rw [if_neg hp] at hr ⊢
          exact h3 n t hn ht r hr
      · rw [((hI n t hn ht).1 (by omega)).2]
        have : ¬ po G E F W n t x = true := by
          unfold po
          have : ¬ (gp G x).1 = n := fun q => e q.symm
          simp [this]
        rw [if_neg this] at hr
        exact h3 n t hn ht r hr
    · simp only [bX8_enter_18]
      rw [if_pos (by decide)]
def TB (G : List gP) (E : Int32) (F W : Nat → Int32) (se ps lo : Nat → Int32) (cf : Int32) : Prop := TBx G E F W 0 se ps lo ∧ cf = nI (smN (fun c => pr (pcR (po G E F W (c / 9) (c % 9)) G.length)) 72)
theorem pairs_nI {c : Nat} (hc : c ≤ 24) : nI c * (nI c - 1) / 2 = nI (pr c) := by
  by_cases h0 : c = 0
  · subst h0; decide
  · have hle : c * (c - 1) ≤ 24 * 23 := Nat.mul_le_mul hc (by omega)
    rw [nI_sub1 (by omega), pk_mul]
    have : nI (c * (c - 1)) / (2 : Int32) = nI (c * (c - 1) / 2) := pk_div (d := 2) (by omega) (by decide) (by decide)
    rw [this, pr_div]
theorem c_pairsIn (hG : okG G) {se ps lo : Nat → Int32} (h : TBx G E F W 0 se ps lo) {c : Nat} (hc : c < 72) : fX8_pairsIn ps (nI c) = some (nI (pr (pcR (po G E F W (c / 9) (c % 9)) G.length))) := by
  have hl := hG.1
  have h2 := h.2.1 (c / 9) (c % 9) (by omega) (by omega)
  have e : c / 9 * 9 + c % 9 = c := by omega
  have z : pcR (po G E F W (c / 9) (c % 9)) 0 = 0 := rfl
  rw [e, z, Nat.sub_zero] at h2
  have hle := pcR_le (po G E F W (c / 9) (c % 9)) G.length
  simp only [fX8_pairsIn, ag_ok hc, obs, h2, pairs_nI (show pcR (po G E F W (c / 9) (c % 9)) G.length ≤ 24 by omega)]
theorem c_table (hc : RC codes count G) (hG : okG G) (se0 ps0 lo0 : Nat → Int32) (cf0 : Int32) {N : Nat} (hN : 100 < N) : ∃ se ps lo cf, fX8_compute N codes count E F W se0 ps0 lo0 cf0 = some (se, ps, lo, cf) ∧ TB G E F W se ps lo cf := by
  have hl := hG.1
  simp only [fX8_compute, jn_, jn3]
  refine vlp2 (B := bX8_compute_2 fun v1 => lt_ (count - (1 : Int32)) fun x2 => itr4 (bX8_compute_31 N codes E F W fun v3 v4 v5 => itr2 (bX8_compute_72 v4 fun v6 => some (v3, v4, v5, v6)) N 0 0) N x2 se0 v1 lo0) (fun j i ps => i = nI j ∧ j ≤ 72 ∧ ∀ c, c < j → ps c = 0) (fun r => ∃ se ps lo cf, r = some (se, ps, lo, cf) ∧ TB G E F W se ps lo cf) 72 ?_ ?_ N 0 ps0 (by omega) ⟨rfl, by omega, fun c hc => absurd hc (Nat.not_lt_zero _)⟩
  · rintro j i ps hj ⟨rfl, _, h1⟩
    left
    refine ⟨nI (j + 1), upd ps j 0, ⟨rfl, by omega, fun c hc => ?_⟩, fun rc => ?_⟩
    · by_cases e : c = j
      · subst e; exact pk_us
      · rw [pk_un e]; exact h1 c (by omega)
    · simp only [bX8_compute_2]
      rw [if_neg (nleL 72 72 hj), as_ok hj]
      simp only [obs, lt_, nI_1]
  · rintro i ps ⟨rfl, _, h1⟩
    have hlast : ∀ se ps lo, TBx G E F W 0 se ps lo → ∃ cf, itr2 (bX8_compute_72 ps fun v6 => some (se, ps, lo, v6)) N 0 0 = some (se, ps, lo, cf) ∧ TB G E F W se ps lo cf := by
      intro se ps lo hT
      refine vlp2 (B := bX8_compute_72 ps fun v6 => some (se, ps, lo, v6)) (fun j i s => i = nI j ∧ j ≤ 72 ∧ s = nI (smN (fun c => pr (pcR (po G E F W (c / 9) (c % 9)) G.length)) j)) (fun r => ∃ cf, r = some (se, ps, lo, cf) ∧ TB G E F W se ps lo cf) 72 ?_ ?_ N 0 0 (by omega) ⟨rfl, by omega, rfl⟩
      · rintro j i s hj ⟨rfl, _, rfl⟩
        left
        refine ⟨nI (j + 1), nI (smN (fun c => pr (pcR (po G E F W (c / 9) (c % 9)) G.length)) j + pr (pcR (po G E F W (j / 9) (j % 9)) G.length)), ⟨rfl, by omega, rfl⟩, fun rc => ?_⟩
        simp only [bX8_compute_72]
        rw [if_neg (nleL 72 72 hj), c_pairsIn hG hT hj]
        simp only [obs, lt_, nI_1, nI_add]
      · rintro i s ⟨rfl, _, rfl⟩
        refine ⟨_, ⟨_, rfl, hT, rfl⟩, fun rc => ?_⟩
        simp only [bX8_compute_72]
        rw [if_pos (by decide)]
    refine ⟨_, ?_, fun rc => by simp only [bX8_compute_2]; rw [if_pos (by decide)]⟩
    rw [hc.1]
    simp only [lt_]
    refine vlp4 (B := bX8_compute_31 N codes E F W fun v3 v4 v5 => itr2 (bX8_compute_72 v4 fun v6 => some (v3, v4, v5, v6)) N 0 0) (fun j i se ps lo => i = nI (G.length - j) - 1 ∧ j ≤ G.length ∧ TBx G E F W (G.length - j) se ps lo) (fun r => ∃ se ps lo cf, r = some (se, ps, lo, cf) ∧ TB G E F W se ps lo cf) G.length ?_ ?_ N (nI G.length - 1) se0 ps lo0 (by omega) ⟨rfl, Nat.zero_le _, fun p h1 h2 => by omega, fun n t hn ht => ?_, fun n t hn ht r hr => ?_⟩
    · rintro j i se ps lo hj ⟨rfl, _, hT⟩
      left
      have e2 : nI (G.length - j) - 1 = nI (G.length - j - 1) := nI_sub1 (by omega)
      have e3 : G.length - (j + 1) = G.length - j - 1 := by omega
      have e4 : G.length - j = G.length - j - 1 + 1 := by omega
      rw [e2, e3]
      rw [e4] at hT
      have hxl : G.length - j - 1 < G.length := by omega
      generalize G.length - j - 1 = x at *
      have hq := okG_gp hG hxl
      obtain ⟨ps', lo', e, g2, g3⟩ := c_enter hc hG hxl (se := upd se x (sel E F W (gp G x))) pk_us hT.2.1 hT.2.2 (show 30 < N by omega)
      refine ⟨nI x - 1, upd se x (sel E F W (gp G x)), ps', lo', ⟨rfl, by omega, fun p h1 h2 => ?_, g2, g3⟩, fun rc => ?_⟩
      · by_cases ex : p = x
        · subst ex; exact pk_us
        · rw [pk_un ex]; exact hT.1 p (by omega) h2
      · simp only [bX8_compute_31]
        rw [if_neg (nI_pos (by omega)), ag_ok (show x < 24 by omega)]
        simp only [obs, hc.2 x hxl, c_selectOf hq (show 5 < N by omega), as_ok (show x < 24 by omega), e, bd2, lt_]
        rw [nIm1]
    · rintro i se ps lo ⟨rfl, _, hT⟩
      rw [Nat.sub_self] at hT ⊢
      obtain ⟨cf, h1, h2⟩ := hlast se ps lo hT
      refine ⟨_, ⟨se, ps, lo, cf, h1, h2⟩, fun rc => ?_⟩
      simp only [bX8_compute_31]
      rw [if_pos (by decide)]
    · rw [Nat.sub_zero, Nat.sub_self]
      exact h1 _ (by omega)
    · rw [Nat.sub_zero, Nat.sub_self] at hr
      simp at hr
end CT
