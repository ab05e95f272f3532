/-! THE PARSER: stacks, tokens, entries; the class's step -/
abbrev pS : Type := List (Nat × Int32)
def SK (sk br : Nat → Int32) : pS → Prop
  | [] => True
  | x :: r => sk r.length = nI x.1 ∧ br r.length = x.2 ∧ SK sk br r
theorem SK_upd {sk br : Nat → Int32} {k : Nat} (a b : Int32) : ∀ {s : pS}, SK sk br s → s.length ≤ k → SK (upd sk k a) (upd br k b) s
  | [], _, _ => trivial
  | x :: r, h, hk => by
    rw [List.length_cons] at hk
    exact ⟨by rw [pk_un (by omega)]; exact h.1, by rw [pk_un (by omega)]; exact h.2.1, SK_upd a b h.2.2 (by omega)⟩
theorem SK_push {sk br : Nat → Int32} {s : pS} (h : SK sk br s) (x : Nat) (b : Int32) : SK (upd sk s.length (nI x)) (upd br s.length b) ((x, b) :: s) := ⟨pk_us, pk_us, SK_upd _ _ h (Nat.le_refl _)⟩
def okK (s : pS) : Prop := ∀ x ∈ s, okS x.1
def tok (I : List Nat) (a : Nat) : Nat := if a < I.length then sy I a else 8
def enT (G : List gP) (E : Int32) (F W : Nat → Int32) (n t : Nat) : Option Nat := (List.range' 0 G.length).find? (po G E F W n t)
theorem enT_lt {G : List gP} {E : Int32} {F W : Nat → Int32} {n t p : Nat} (h : enT G E F W n t = some p) : p < G.length := by
  unfold enT at h
  have := List.mem_of_find?_eq_some h
  simpa [List.mem_range'_1] using this
theorem tok_lt {I : List Nat} (h : t8 I) (a : Nat) : tok I a < 9 := by
  unfold tok
  split
  · rename_i hh
    have := h _ (sy_mem hh)
    omega
  · omega
theorem oE_some (p : Nat) : oE (some p) = nI p := rfl
theorem oE_none : oE none = -2 := rfl
/-- the symbols of a right side put on a stack -/
def put1 (w : List Nat) (b : Int32) (s : pS) : pS := w.map (fun x => (x, b)) ++ s
theorem put1_len (w : List Nat) (b : Int32) (s : pS) : (put1 w b s).length = w.length + s.length := by unfold put1; rw [List.length_append, List.length_map]
theorem put1_drop {w : List Nat} {j : Nat} (h : j < w.length) (b : Int32) (s : pS) : put1 (w.drop j) b s = (sy w j, b) :: put1 (w.drop (j + 1)) b s := by
  unfold put1
  rw [drop_cons h]
  rfl
theorem put1_ok {w : List Nat} {b : Int32} {s : pS} (hw : ∀ x ∈ w, okS x) (hs : okK s) : okK (put1 w b s) := by
  intro x hx
  unfold put1 at hx
  rcases List.mem_append.mp hx with hx | hx
  · obtain ⟨a, ha, rfl⟩ := List.mem_map.mp hx
    exact hw a ha
  · exact hs x hx
section CST
variable {codes tm : Nat → Int32} {count il : Int32} {G : List gP} {E : Int32} {F W se ps lo : Nat → Int32} {I : List Nat}
theorem c_top {sk br : Nat → Int32} {x : Nat} {b : Int32} {s : pS} (h : SK sk br ((x, b) :: s)) (h64 : s.length < 65) : fX4_top sk (nI (s.length + 1)) = some (nI x) ∧ fX4_bringer br (nI (s.length + 1)) = some b := by
  have h1 : sk s.length = nI x := h.1
  have h2 : br s.length = b := h.2.1
  simp only [fX4_top, fX4_bringer, jn_]
  rw [if_neg (nI_nle (by omega) (by omega)), if_neg (nI_nle (by omega) (by omega)), nI_sub1 (by omega), Nat.add_sub_cancel, ag_ok h64, ag_ok h64, obs, obs, h1, h2]
  exact ⟨rfl, rfl⟩
theorem c_top0 (sk br : Nat → Int32) : fX4_top sk 0 = some (-1) := by
  simp only [fX4_top, jn_]
  rw [if_pos (by decide)]
theorem c_token (hI : IC tm il I) {a : Nat} (ha : a < 2 ^ 31) : fX4_token tm il (nI a) = some (nI (tok I a)) := by
  simp only [fX4_token, c_tokenAt hI ha, obs]
  rfl
theorem c_accepts (hI : IC tm il I) {a d : Nat} (ha : a < 2 ^ 31) (hd : d < 2 ^ 31) : fX4_accepts tm il (nI d) (nI a) = some (b01 (decide (d = 0 ∧ tok I a = 8))) := by
  have ht := tok_lt hI.2.2.1 a
  simp only [fX4_accepts, jn_, gz]
  by_cases e : d = 0
  · rw [if_pos (by rw [e]; rfl), c_token hI ha, obs]
    by_cases e2 : tok I a = 8
    · rw [if_pos (by rw [e2]; rfl)]; simp [b01, e, e2]
    · rw [if_neg (by rw [n8, nI_eq (by omega) (by decide)]; exact e2)]; simp [b01, e2]
  · rw [if_neg (nI_ne0 (by omega) (by omega))]; simp [b01, e]
def canP (G : List gP) (E : Int32) (F W : Nat → Int32) (I : List Nat) (a : Nat) : pS → Bool
  | [] => false
  | (x, _) :: _ => if x < 10 then decide (x = tok I a) else (enT G E F W (x - 10) (tok I a)).isSome
theorem c_canMove (hG : okG G) (hT : TBx G E F W 0 se ps lo) (hI : IC tm il I) {sk br : Nat → Int32} {s : pS} (h : SK sk br s) (hk : okK s) (h65 : s.length ≤ 65) {a : Nat} (ha : a < 2 ^ 31) : fX4_canMove ps lo tm il sk (nI s.length) (nI a) = some (b01 (canP G E F W I a s)) := by
  have ht := tok_lt hI.2.2.1 a
  have hl := hG.1
  cases s with
  | nil =>
    simp only [fX4_canMove, jn_]
    rw [show nI ([] : pS).length = 0 from rfl, c_top0 sk br, obs, if_pos (by decide), if_pos (by decide)]
    rfl
  | cons y s =>
    obtain ⟨x, b⟩ := y
    have hx : okS x := hk _ List.mem_cons_self
    have hx18 := okS_lt hx
    rw [List.length_cons] at h65 ⊢
    simp only [fX4_canMove, jn_, canP]
    rw [(c_top h (by omega)).1, obs]
    by_cases h10 : x < 10
    · rw [if_pos (lt10 h10), if_neg (nI_pos (by omega)), c_token hI ha, obs, if_pos h10]
      by_cases e : x = tok I a
      · rw [if_pos (by rw [e])]; simp [b01, gz, e]
      · rw [if_neg (by rw [nI_eq (by omega) (by omega)]; exact e)]; simp [b01, gz, e]
    · rw [if_neg (nlt10 h10 hx18), c_token hI ha, obs, sub10 h10, c_entry hG hT (show x - 10 < 8 by omega) ht, obs, if_neg h10]
      show _ = some (b01 (enT G E F W (x - 10) (tok I a)).isSome)
      cases e : (List.range' 0 G.length).find? (po G E F W (x - 10) (tok I a)) with
      | none =>
        have : enT G E F W (x - 10) (tok I a) = none := e
        rw [this, oE_none, if_pos (by decide)]; simp [b01, gz]
      | some p =>
        have e' : enT G E F W (x - 10) (tok I a) = some p := e
        have := enT_lt e'
        rw [e', oE_some, if_neg (nI_pos (by omega))]; simp [b01, gz]
theorem c_pushLoop (hG : okG G) {p : Nat} (hp : p < G.length) {sk br : Nat → Int32} {s : pS} (h : SK sk br s) (h60 : s.length < 60) (st : Int32) {N : Nat} (hN : 30 < N) : ∃ sk' br', SK sk' br' (put1 (gp G p).2 st s) ∧ ∀ K, itr4 (bX4_expand_69 st (nI (enc (gp G p))) K) N (nI (gp G p).2.length - 1) sk br (nI s.length) = K sk' br' (nI (put1 (gp G p).2 st s).length) := by
  have hq := okG_gp hG hp
  have h5 := hq.2.1
  have key := vlq4 (B := fun K => bX4_expand_69 st (nI (enc (gp G p))) K) (fun j i sk br d => i = nI ((gp G p).2.length - j) - 1 ∧ j ≤ (gp G p).2.length ∧ d = nI (put1 ((gp G p).2.drop ((gp G p).2.length - j)) st s).length ∧ SK sk br (put1 ((gp G p).2.drop ((gp G p).2.length - j)) st s)) (fun r : ((Nat → Int32) → (Nat → Int32) → Int32 → Option ((Nat → Int32) × Int32 × (Nat → Int32) × (Nat → Int32) × Int32)) → Option ((Nat → Int32) × Int32 × (Nat → Int32) × (Nat → Int32) × Int32) => ∃ sk' br', SK sk' br' (put1 (gp G p).2 st s) ∧ ∀ K : (Nat → Int32) → (Nat → Int32) → Int32 → Option ((Nat → Int32) × Int32 × (Nat → Int32) × (Nat → Int32) × Int32), r K = K sk' br' (nI (put1 (gp G p).2 st s).length)) (gp G p).2.length ?_ ?_ N (nI (gp G p).2.length - 1) sk br (nI s.length) (by omega) ⟨by rw [Nat.sub_zero], Nat.zero_le _, by rw [Nat.sub_zero, List.drop_length]; rfl, by rw [Nat.sub_zero, List.drop_length]; exact h⟩
  · exact key
  · rintro j i sk br d hj ⟨rfl, hb, rfl, hs⟩
    left
    obtain ⟨m, hm⟩ : ∃ m, m = (gp G p).2.length - (j + 1) := ⟨_, rfl⟩
    have e1 : (gp G p).2.length - j = m + 1 := by omega
    have hml : m < (gp G p).2.length := by omega
    rw [e1] at hs ⊢
    rw [← hm]
    have hlen := put1_len ((gp G p).2.drop (m + 1)) st s
    rw [List.length_drop] at hlen
    refine ⟨nI m - 1, _, _, nI (put1 ((gp G p).2.drop m) st s).length, ⟨rfl, by omega, rfl, by rw [put1_drop hml]; exact SK_push hs (sy (gp G p).2 m) st⟩, fun K rc => ?_⟩
    simp only [bX4_expand_69, fX4_push, jn3]
    rw [nI_sub1 (show 0 < m + 1 by omega), Nat.add_sub_cancel, if_neg (nI_pos (by omega)), c_symbolOf hq hml, obs, if_neg (nleL 65 65 (by omega)), as_ok (show (put1 ((gp G p).2.drop (m + 1)) st s).length < 65 by omega), obs, as_ok (show (put1 ((gp G p).2.drop (m + 1)) st s).length < 65 by omega), obs]
    simp only [lt_, nI_1, bd3, obs]
    rw [put1_drop hml, List.length_cons, Int32.sub_eq_add_neg]
  · rintro i sk br d ⟨rfl, hb, rfl, hs⟩
    rw [Nat.sub_self, List.drop_zero] at hs ⊢
    refine ⟨fun K => K sk br (nI (put1 (gp G p).2 st s).length), ⟨sk, br, hs, fun _ => rfl⟩, fun K rc => ?_⟩
    simp only [bX4_expand_69]
    rw [if_pos (by decide)]
theorem c_moveT (hI : IC tm il I) {sk br : Nat → Int32} {x : Nat} {b : Int32} {s : pS} (h : SK sk br ((x, b) :: s)) (h65 : s.length < 65) (h10 : x < 10) (ta : Nat → Int32) (tn : Int32) (a st : Nat) (N : Nat) : fX4_move N codes count ps lo tm il ta tn sk br (nI (s.length + 1)) (nI a) (nI st) = some (ta, tn, sk, br, nI s.length, nI (a + 1), nI (st + 1)) := by
  simp only [fX4_move, jn6, lt_]
  rw [(c_top h h65).1, obs, if_pos (lt10 h10), nI_sub1 (by omega), Nat.add_sub_cancel, nI_1, nI_1]
theorem c_moveN (hc : RC codes count G) (hG : okG G) (hT : TBx G E F W 0 se ps lo) (hI : IC tm il I) {sk br : Nat → Int32} {x : Nat} {b : Int32} {s : pS} (h : SK sk br ((x, b) :: s)) (h60 : s.length < 60) (h10 : ¬ x < 10) (hx : okS x) (ta : Nat → Int32) {tl : Nat} (htl : tl < 300) {a st p : Nat} (ha : a < 2 ^ 31) (he : enT G E F W (x - 10) (tok I a) = some p) {N : Nat} (hN : 30 < N) : ∃ sk' br', SK sk' br' (put1 (gp G p).2 (nI st) s) ∧ fX4_move N codes count ps lo tm il ta (nI tl) sk br (nI (s.length + 1)) (nI a) (nI st) = some (upd ta tl (nI p), nI (tl + 1), sk', br', nI (put1 (gp G p).2 (nI st) s).length, nI a, nI (st + 1)) := by
  have hl := hG.1
  have hx18 := okS_lt hx
  have hp := enT_lt he
  obtain ⟨sk', br', s1, s2⟩ := c_pushLoop hG hp h.2.2 h60 (nI st) hN
  refine ⟨sk', br', s1, ?_⟩
  have hent : fX8_entry ps lo (nI (x - 10)) (nI (tok I a)) = some (nI p) := by
    rw [c_entry hG hT (show x - 10 < 8 by omega) (tok_lt hI.2.2.1 a)]
    show some (oE (enT G E F W (x - 10) (tok I a))) = _
    rw [he]
    rfl
  simp only [fX4_move, jn6, lt_]
  rw [(c_top h (by omega)).1, obs, if_neg (nlt10 h10 hx18), c_token hI ha, obs, sub10 h10, hent, obs]
  simp only [fX4_expand, jn_, jn3, lt_]
  rw [hc.1, c_has _ (show G.length < 2 ^ 31 by omega), obs, inI_nI hp (by omega), if_neg (by decide), if_pos (show nI tl < 300 from nI_lt (b := 300) htl (by decide)), as_ok htl, obs, ag_ok (show p < 24 by omega), obs, hc.2 p hp, c_lengthOf (okG_gp hG hp), obs, nI_sub1 (show 0 < s.length + 1 by omega), Nat.add_sub_cancel, s2]
  simp only [bd5, obs, nI_1]
end CST
