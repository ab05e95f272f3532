/-! THE GRAMMAR: productions as pairs (left, right); what the class and the reference hold of it -/
abbrev gP : Type := Nat × List Nat
def okS (s : Nat) : Prop := s < 8 ∨ (10 ≤ s ∧ s < 18)
def okP (q : gP) : Prop := q.1 < 8 ∧ q.2.length ≤ 5 ∧ ∀ s ∈ q.2, okS s
def okG (G : List gP) : Prop := G.length ≤ 24 ∧ (∀ q ∈ G, okP q) ∧ G.Nodup
def encR : List Nat → Nat
  | [] => 0
  | s :: r => s + 32 * encR r
def enc (q : gP) : Nat := q.1 + 8 * (q.2.length + 8 * encR q.2)
def gp (G : List gP) (p : Nat) : gP := G.getD p (0, [])
def sy (w : List Nat) (i : Nat) : Nat := w.getD i 0
def RC (codes : Nat → Int32) (count : Int32) (G : List gP) : Prop := count = nI G.length ∧ ∀ p, p < G.length → codes p = nI (enc (gp G p))
theorem gp_mem {G : List gP} {p : Nat} (h : p < G.length) : gp G p ∈ G := by
  have : gp G p = G[p] := by simp [gp, List.getD, h]
  rw [this]; exact List.getElem_mem h
theorem sy_get {w : List Nat} {i : Nat} (h : i < w.length) : w[i]? = some (sy w i) := by simp [sy, List.getD, h]
theorem sy_mem {w : List Nat} {i : Nat} (h : i < w.length) : sy w i ∈ w := List.mem_of_getElem? (sy_get h)
def foldN {α : Type} (step : Nat → α → α) : Nat → α → α
  | 0, a => a
  | n + 1, a => step n (foldN step n a)
theorem foldN_congr {α : Type} {f g : Nat → α → α} {n : Nat} {a : α} (h : ∀ i, i < n → ∀ x, f i x = g i x) : foldN f n a = foldN g n a := by
  induction n with
  | zero => rfl
  | succ n ih => simp only [foldN]; rw [ih (fun i hi x => h i (by omega) x), h n (by omega)]
/-- the first index below n with P -/
def fstI (P : Nat → Bool) (n : Nat) : Option Nat := (List.range n).find? P
theorem srch {ρ : Type} {B : (Int32 → Option ρ) → Int32 → Option ρ} (n N : Nat) (hN : n < N) (P : Nat → Bool) (val : Nat → Option ρ) (dflt : Option ρ) (hs : ∀ i, i < n → ∀ rc, B rc (nI i) = if P i = true then val i else rc (nI (i + 1))) (he : ∀ rc, B rc (nI n) = dflt) : itr B N (nI 0) = match fstI P n with | some i => val i | none => dflt := by
  have key : ∀ (k j N : Nat), j + k = n → k < N → itr B N (nI j) = match (List.range' j k).find? P with | some i => val i | none => dflt := by
    intro k
    induction k with
    | zero =>
      intro j N hj hN
      obtain ⟨M, rfl⟩ : ∃ M, N = M + 1 := ⟨N - 1, by omega⟩
      show B (itr B M) (nI j) = _
      have : j = n := by omega
      subst this
      rw [he]; rfl
    | succ k ih =>
      intro j N hj hN
      obtain ⟨M, rfl⟩ : ∃ M, N = M + 1 := ⟨N - 1, by omega⟩
      show B (itr B M) (nI j) = _
      rw [hs j (by omega), List.range'_succ, List.find?_cons]
      by_cases hp : P j = true
      · rw [if_pos hp, hp]
      · rw [if_neg hp]
        have hp' : P j = false := by simpa using hp
        rw [hp']
        exact ih (j + 1) M (by omega) (by omega)
  have := key n 0 N (by omega) hN
  rw [this]
  unfold fstI
  rw [List.range_eq_range']
theorem okS_lt {s : Nat} (h : okS s) : s < 18 := by rcases h with h | h <;> omega
theorem encR_lt : ∀ (w : List Nat), (∀ s ∈ w, s < 32) → encR w < 32 ^ w.length
  | [], _ => by simp [encR]
  | s :: r, h => by
    have h1 := encR_lt r (fun x hx => h x (List.mem_cons_of_mem _ hx))
    have h2 := h s List.mem_cons_self
    simp only [encR, List.length_cons, Nat.pow_succ]
    omega
theorem encR_get : ∀ (w : List Nat) (i s : Nat), (∀ s ∈ w, s < 32) → w[i]? = some s → encR w / 32 ^ i % 32 = s
  | [], _, _, _, h => by simp at h
  | a :: r, 0, s, hw, h => by
    simp at h
    subst h
    have := hw a List.mem_cons_self
    simp only [encR, Nat.pow_zero, Nat.div_one]
    omega
  | a :: r, i + 1, s, hw, h => by
    have ha := hw a List.mem_cons_self
    have ih := encR_get r i s (fun x hx => hw x (List.mem_cons_of_mem _ hx)) (by simpa using h)
    simp only [encR, Nat.pow_succ]
    rw [Nat.mul_comm (32 ^ i) 32, ← Nat.div_div_eq_div_mul]
    have : (a + 32 * encR r) / 32 = encR r := by omega
    rw [this]
    exact ih
theorem encR_app : ∀ (w : List Nat) (s : Nat), encR (w ++ [s]) = encR w + s * 32 ^ w.length
  | [], s => by simp [encR]
  | a :: r, s => by
    have ih := encR_app r s
    simp only [List.cons_append, encR, List.length_cons, Nat.pow_succ, ih]
    rw [Nat.mul_add, ← Nat.mul_assoc 32 s, Nat.mul_comm 32 s, Nat.mul_assoc s 32, Nat.mul_comm 32 (32 ^ r.length)]
    omega
theorem encR_inj : ∀ (w v : List Nat), w.length = v.length → (∀ s ∈ w, s < 32) → (∀ s ∈ v, s < 32) → encR w = encR v → w = v
  | [], [], _, _, _, _ => rfl
  | [], _ :: _, h, _, _, _ => by simp at h
  | _ :: _, [], h, _, _, _ => by simp at h
  | a :: r, b :: t, h, h1, h2, h3 => by
    have ha := h1 a List.mem_cons_self
    have hb := h2 b List.mem_cons_self
    simp only [encR] at h3
    have e1 : a = b := by omega
    have e2 : encR r = encR t := by omega
    rw [e1, encR_inj r t (by simpa using h) (fun x hx => h1 x (List.mem_cons_of_mem _ hx)) (fun x hx => h2 x (List.mem_cons_of_mem _ hx)) e2]
theorem okP_sym {q : gP} (h : okP q) : ∀ s ∈ q.2, s < 32 := fun s hs => by have := okS_lt (h.2.2 s hs); omega
theorem pow32_le : ∀ n, n ≤ 5 → 32 ^ n ≤ 2 ^ 25 := by decide +kernel
theorem enc_lt {q : gP} (h : okP q) : enc q < 2 ^ 31 := by
  have h1 := encR_lt q.2 (okP_sym h)
  have h2 := pow32_le _ h.2.1
  have h3 := h.1
  have h4 := h.2.1
  unfold enc
  omega
theorem enc_inj {q r : gP} (hq : okP q) (hr : okP r) (h : enc q = enc r) : q = r := by
  have h1 := hq.1; have h2 := hr.1; have h3 := hq.2.1; have h4 := hr.2.1
  unfold enc at h
  have e1 : q.1 = r.1 := by omega
  have e2 : q.2.length = r.2.length := by omega
  have e3 : encR q.2 = encR r.2 := by omega
  have e4 := encR_inj q.2 r.2 e2 (okP_sym hq) (okP_sym hr) e3
  exact Prod.ext e1 e4
theorem enc_eq_iff {q r : gP} (hq : okP q) (hr : okP r) : nI (enc q) = nI (enc r) ↔ q = r := by
  rw [nI_eq (enc_lt hq) (enc_lt hr)]
  exact ⟨enc_inj hq hr, fun h => by rw [h]⟩
theorem sh_hs : ∀ j, j < 32 → ((nI j &&& (31 : Int32)).toBitVec.smod 32).toNat = j := by decide +kernel
theorem shr_nI {n j : Nat} (hn : n < 2 ^ 31) (hj : j < 32) : nI n >>> (nI j &&& (31 : Int32)) = nI (n / 2 ^ j) := pk_shrN hn _ j (sh_hs j hj)
theorem shl_nI {n j : Nat} (hj : j < 32) (h : n * 2 ^ j < 2 ^ 32) : nI n <<< (nI j &&& (31 : Int32)) = nI (n * 2 ^ j) := pk_shlN _ j (sh_hs j hj) h
theorem c_leftOf {q : gP} (h : okP q) : fX6_leftOf (nI (enc q)) = some (nI q.1) := by
  unfold fX6_leftOf
  rw [pk_andN (by have := enc_lt h; omega) 3 (by decide)]
  have := h.1
  unfold enc
  congr 2
  omega
theorem c_lengthOf {q : gP} (h : okP q) : fX6_lengthOf (nI (enc q)) = some (nI q.2.length) := by
  unfold fX6_lengthOf
  have e : (3 : Int32) = nI 3 := rfl
  rw [e, shr_nI (enc_lt h) (by decide), pk_andN (by have := enc_lt h; omega) 3 (by decide)]
  have h1 := h.1
  have h2 := h.2.1
  unfold enc
  congr 2
  omega
theorem i_nI (n : Nat) : ∀ {x : Int32}, x = nI n → x = nI n := fun h => h
theorem n6 : (6 : Int32) = nI 6 := rfl
theorem n5 : (5 : Int32) = nI 5 := rfl
theorem n8 : (8 : Int32) = nI 8 := rfl
theorem n10 : (10 : Int32) = nI 10 := rfl
theorem n1 : (1 : Int32) = nI 1 := rfl
theorem n0 : (0 : Int32) = nI 0 := rfl
theorem n24 : (24 : Int32) = nI 24 := rfl
theorem c_symbolOf {q : gP} (h : okP q) {i : Nat} (hi0 : i < q.2.length) : fX6_symbolOf (nI (enc q)) (nI i) = some (nI (sy q.2 i)) := by
  have hs := sy_get hi0
  generalize sy q.2 i = s at hs ⊢
  unfold fX6_symbolOf
  have hi : i < q.2.length := (List.getElem?_eq_some_iff.mp hs).1
  have hl := h.2.1
  rw [n6, n5, pk_mul, nI_add, shr_nI (enc_lt h) (by omega), pk_andN (by have := enc_lt h; have := Nat.div_le_self (enc q) (2 ^ (6 + 5 * i)); omega) 5 (by decide)]
  have e := encR_get q.2 i s (okP_sym h) hs
  have h1 := h.1
  have e2 : enc q / 2 ^ (6 + 5 * i) = encR q.2 / 32 ^ i := by
    rw [Nat.pow_add, Nat.pow_mul, ← Nat.div_div_eq_div_mul]
    congr 1
    unfold enc
    omega
  rw [e2]
  show some (nI (encR q.2 / 32 ^ i % 32)) = _
  rw [e]
theorem c_extended {l : Nat} {w : List Nat} {s : Nat} (h : okP (l, w)) (hw : w.length ≤ 4) (hs : okS s) : fX6_extended (nI (enc (l, w))) (nI s) = some (nI (enc (l, w ++ [s]))) := by
  unfold fX6_extended
  rw [c_lengthOf h]
  simp only [obs]
  have hs18 := okS_lt hs
  have hp : 2 ^ (6 + 5 * w.length) ≤ 2 ^ 26 := Nat.pow_le_pow_right (by decide) (by omega)
  have hb : s * 2 ^ (6 + 5 * w.length) < 2 ^ 32 := by
    have : s * 2 ^ (6 + 5 * w.length) ≤ 18 * 2 ^ 26 := Nat.mul_le_mul (by omega) hp
    omega
  rw [n6, n5, pk_mul, nI_add, shl_nI (by omega) hb, n8, nI_add, nI_add]
  congr 2
  unfold enc
  simp only [List.length_append, List.length_cons, List.length_nil, encR_app]
  rw [Nat.pow_add, Nat.pow_mul]
  have : (32 : Nat) ^ w.length = (2 ^ 5) ^ w.length := rfl
  rw [this]
  generalize (2 ^ 5) ^ w.length = z
  have e : s * (2 ^ 6 * z) = 64 * (s * z) := by rw [Nat.mul_left_comm]
  rw [e]
  omega
theorem okG_gp {G : List gP} (h : okG G) {p : Nat} (hp : p < G.length) : okP (gp G p) := h.2.1 _ (gp_mem hp)
theorem okP_sy {q : gP} (h : okP q) {i : Nat} (hi : i < q.2.length) : okS (sy q.2 i) := h.2.2 _ (sy_mem hi)
