/-! LEFT RECURSION: the class closes a relation, the reference follows one nonterminal -/
def bnI (E : Int32) : List Nat → Int32
  | [] => 0
  | s :: r => (if s < 10 then 0 else bitI (s - 10)) ||| (if nb E s = true then bnI E r else 0)
theorem bnI_255 (E : Int32) : ∀ (w : List Nat), (∀ s ∈ w, s < 18) → sb (bnI E w) 255
  | [], _ => sb_zero _
  | s :: r, h => by
    have h1 := h s List.mem_cons_self
    refine sb_or ?_ ?_
    · by_cases h10 : s < 10
      · rw [if_pos h10]; exact sb_zero _
      · rw [if_neg h10]; exact sb_255 _ (by omega)
    · by_cases hb : nb E s = true
      · rw [if_pos hb]; exact bnI_255 E r (fun x hx => h x (List.mem_cons_of_mem _ hx))
      · rw [if_neg hb]; exact sb_zero _
def stL (G : List gP) (E : Int32) (n p : Nat) (F : Int32) : Int32 := if (gp G p).1 = n ∨ tb F (gp G p).1 = true then F ||| bnI E (gp G p).2 else F
def fL (G : List gP) (E : Int32) (n : Nat) (F : Int32) : Int32 := foldN (stL G E n) G.length F
theorem stL_up (G : List gP) (E : Int32) (n p : Nat) (x : Int32) : sb x (stL G E n p x) := by
  unfold stL
  split
  · exact sb_or_l _ _
  · exact sb_rfl _
theorem fL_up (G : List gP) (E : Int32) (n : Nat) (x : Int32) : sb x (fL G E n x) := fold_up (fun p x => stL_up G E n p x) x _
theorem fL_255 {G : List gP} (hG : okG G) (E : Int32) (n : Nat) (x : Int32) (hx : sb x 255) : sb (fL G E n x) 255 := fold_255 (m := G.length) (fun p x hp hx => by
  unfold stL
  split
  · exact sb_or hx (bnI_255 E _ (okP18 (okG_gp hG hp)))
  · exact hx) hx _ (Nat.le_refl _)
def SL (G : List gP) (E : Int32) (n : Nat) : Int32 := foldN (fun _ => fL G E n) 9 0
def clL (G : List gP) (E : Int32) (n : Nat) (T : Int32) : Prop := ∀ p, p < G.length → (gp G p).1 = n ∨ tb T (gp G p).1 = true → sb (bnI E (gp G p).2) T
theorem fold_fix {st : Nat → Int32 → Int32} (h : ∀ p x, sb x (st p x)) {x : Int32} : ∀ n, foldN st n x = x → ∀ p, p < n → st p x = x
  | 0, _, p, hp => absurd hp (Nat.not_lt_zero _)
  | n + 1, e, p, hp => by
    have e1 : foldN st n x = x := sb_anti (by
      have := h n (foldN st n x)
      rw [← foldN_S st n x, e] at this
      exact this) (fold_up h x n)
    by_cases q : p = n
    · subst q
      rw [foldN_S, e1] at e
      exact e
    · exact fold_fix h n e1 p (by omega)
theorem SL_closed {G : List gP} (hG : okG G) (E : Int32) (n : Nat) : clL G E n (SL G E n) := by
  have hst := rounds8 (fL_up G E n) (fL_255 hG E n) (x0 := 0) (sb_zero _) 9 (by decide)
  intro p hp hc
  have := fold_fix (fun p x => stL_up G E n p x) G.length hst p hp
  unfold stL at this
  have hc' : (gp G p).1 = n ∨ tb (foldN (fun _ => fL G E n) 9 0) (gp G p).1 = true := hc
  rw [if_pos hc'] at this
  have h2 := sb_or_r (foldN (fun _ => fL G E n) 9 0) (bnI E (gp G p).2)
  rw [this] at h2
  exact h2
theorem SL_low {G : List gP} (hG : okG G) (E : Int32) (n : Nat) {T : Int32} (hT : clL G E n T) : sb (SL G E n) T := by
  have one : ∀ x, sb x T → ∀ k, k ≤ G.length → sb (foldN (stL G E n) k x) T := by
    intro x hx k
    induction k with
    | zero => intro _; exact hx
    | succ k ih =>
      intro hk
      have ih := ih (by omega)
      rw [foldN_S]
      generalize foldN (stL G E n) k x = y at *
      have h8 := (okG_gp hG (show k < G.length by omega)).1
      unfold stL
      by_cases hc : (gp G k).1 = n ∨ tb y (gp G k).1 = true
      · rw [if_pos hc]
        refine sb_or ih (hT k (by omega) ?_)
        rcases hc with hc | hc
        · exact Or.inl hc
        · exact Or.inr (tb_mono ih (by omega) hc)
      · rw [if_neg hc]; exact ih
  have all : ∀ k, sb (foldN (fun _ => fL G E n) k 0) T := by
    intro k
    induction k with
    | zero => exact sb_zero _
    | succ k ih => exact one _ ih _ (Nat.le_refl _)
  exact all 9
-- the class: base, closure
def stB0 (G : List gP) (E : Int32) (p : Nat) (B : Nat → Int32) : Nat → Int32 := upd B (gp G p).1 (B (gp G p).1 ||| bnI E (gp G p).2)
def stC (m n : Nat) (B : Nat → Int32) : Nat → Int32 := if tb (B n) m = true then upd B n (B n ||| B m) else B
def B0 (G : List gP) (E : Int32) (b : Nat → Int32) : Nat → Int32 := foldN (stB0 G E) G.length (foldN (fun i h => upd h i 0) 8 b)
def CC (B : Nat → Int32) : Nat → Int32 := foldN (fun m => foldN (stC m) 8) 8 B
theorem stC_at (m : Nat) (B : Nat → Int32) : ∀ k, (∀ n, n < k → foldN (stC m) k B n = if tb (B n) m = true then B n ||| B m else B n) ∧ ∀ n, k ≤ n → foldN (stC m) k B n = B n
  | 0 => ⟨fun n hn => absurd hn (Nat.not_lt_zero _), fun _ _ => rfl⟩
  | k + 1 => by
    obtain ⟨a1, a2⟩ := stC_at m B k
    have hm : foldN (stC m) k B m = B m := by
      rcases Nat.lt_or_ge m k with h | h
      · rw [a1 m h]
        split
        · exact Int32.or_self
        · rfl
      · exact a2 m h
    rw [foldN_S]
    generalize foldN (stC m) k B = u at *
    have hk := a2 k (Nat.le_refl _)
    unfold stC
    rw [hk]
    by_cases ht : tb (B k) m = true
    · rw [if_pos ht, hm]
      refine ⟨fun n hn => ?_, fun n hn => by rw [pk_un (by omega)]; exact a2 n (by omega)⟩
      by_cases e : n = k
      · subst e; rw [pk_us, if_pos ht]
      · rw [pk_un e]; exact a1 n (by omega)
    · rw [if_neg ht]
      refine ⟨fun n hn => ?_, fun n hn => a2 n (by omega)⟩
      by_cases e : n = k
      · subst e; rw [hk, if_neg ht]
      · exact a1 n (by omega)
theorem B0_base {G : List gP} (hG : okG G) (E : Int32) (b : Nat → Int32) : ∀ k, k ≤ G.length → (∀ p, p < k → sb (bnI E (gp G p).2) (foldN (stB0 G E) k b (gp G p).1)) ∧ sb8 b (foldN (stB0 G E) k b)
  | 0, _ => ⟨fun p hp => absurd hp (Nat.not_lt_zero _), sb8_rfl _⟩
  | k + 1, hk => by
    obtain ⟨a1, a2⟩ := B0_base hG E b k (by omega)
    rw [foldN_S]
    generalize foldN (stB0 G E) k b = u at *
    have hup := sb8_upd u (gp G k).1 (bnI E (gp G k).2)
    refine ⟨fun p hp => ?_, sb8_trans a2 hup⟩
    by_cases e : p = k
    · subst e
      show sb _ (upd u _ _ _)
      rw [pk_us]; exact sb_or_r _ _
    · exact sb_trans (a1 p (by omega)) (hup _ (okG_gp hG (by omega)).1)
theorem B0_low {G : List gP} (hG : okG G) (E : Int32) {b D : Nat → Int32} (hb : sb8 b D) (hD : ∀ p, p < G.length → sb (bnI E (gp G p).2) (D (gp G p).1)) : ∀ k, k ≤ G.length → sb8 (foldN (stB0 G E) k b) D
  | 0, _ => hb
  | k + 1, hk => by
    rw [foldN_S]
    exact sb8_upd_low (B0_low hG E hb hD k (by omega)) (okG_gp hG (by omega)).1 (hD k (by omega))
/-- Warshall's way -/
theorem CC_props (B : Nat → Int32) : ∀ k, k ≤ 8 → sb8 B (foldN (fun m => foldN (stC m) 8) k B) ∧ (∀ m, m < k → ∀ n, n < 8 → tb (foldN (fun m => foldN (stC m) 8) k B n) m = true → sb (foldN (fun m => foldN (stC m) 8) k B m) (foldN (fun m => foldN (stC m) 8) k B n)) ∧ ∀ D : Nat → Int32, sb8 B D → (∀ m n, m < 8 → n < 8 → tb (D n) m = true → sb (D m) (D n)) → sb8 (foldN (fun m => foldN (stC m) 8) k B) D
  | 0, _ => ⟨sb8_rfl _, fun m hm => absurd hm (Nat.not_lt_zero _), fun D h _ => h⟩
  | k + 1, hk => by
    obtain ⟨a1, a2, a3⟩ := CC_props B k (by omega)
    rw [foldN_S]
    generalize foldN (fun m => foldN (stC m) 8) k B = C at *
    have hC := (stC_at k C 8).1
    generalize foldN (stC k) 8 C = C' at *
    have hup : ∀ n, n < 8 → sb (C n) (C' n) := fun n hn => by
      rw [hC n hn]
      split
      · exact sb_or_l _ _
      · exact sb_rfl _
    have hkk : C' k = C k := by
      rw [hC k (by omega)]
      split
      · exact Int32.or_self
      · rfl
    have hin : ∀ n, n < 8 → tb (C n) k = true → sb (C k) (C' n) := fun n hn h => by
      rw [hC n hn, if_pos h]; exact sb_or_r _ _
    have hkin : ∀ n, n < 8 → tb (C' n) k = true → tb (C n) k = true := fun n hn h => by
      rw [hC n hn] at h
      by_cases hc : tb (C n) k = true
      · exact hc
      · rw [if_neg hc] at h; exact h
    refine ⟨fun n hn => sb_trans (a1 n hn) (hup n hn), fun m hm n hn ht => ?_, fun D hD htr => fun n hn => ?_⟩
    · by_cases e : m = k
      · subst e
        rw [hkk]
        exact hin n hn (hkin n hn ht)
      · have hmk : m < k := by omega
        have low : ∀ x, x < 8 → sb (C m) (C' x) → (tb (C m) k = true → tb (C x) k = true) → sb (C' m) (C' x) := by
          intro x hx h1 h2
          rw [hC m (by omega)]
          by_cases hc : tb (C m) k = true
          · rw [if_pos hc]; exact sb_or h1 (hin x hx (h2 hc))
          · rw [if_neg hc]; exact h1
        have ht0 := ht
        rw [hC n hn] at ht
        by_cases hc : tb (C n) k = true
        · rw [if_pos hc, tb_or _ _ (by omega), Bool.or_eq_true] at ht
          refine low n hn ?_ (fun _ => hc)
          rcases ht with ht | ht
          · exact sb_trans (a2 m hmk n hn ht) (hup n hn)
          · exact sb_trans (a2 m hmk k (by omega) ht) (hin n hn hc)
        · rw [if_neg hc] at ht
          have h1 := a2 m hmk n hn ht
          exact low n hn (sb_trans h1 (hup n hn)) (fun h => tb_mono h1 (by omega) h)
    · have h3 := a3 D hD htr
      rw [hC n hn]
      by_cases hc : tb (C n) k = true
      · rw [if_pos hc]
        exact sb_or (h3 n hn) (sb_trans (h3 k (by omega)) (htr k n (by omega) hn (tb_mono (h3 n hn) (by omega) hc)))
      · rw [if_neg hc]; exact h3 n hn
theorem CC_eq {G : List gP} (hG : okG G) (E : Int32) (b : Nat → Int32) {n : Nat} (hn : n < 8) : CC (B0 G E b) n = SL G E n := by
  have hz : ∀ i, i < 8 → foldN (fun i h => upd h i 0) 8 b i = 0 := fun i hi => by rw [foldN_upd b (fun _ => 0)]; rw [if_pos hi]
  obtain ⟨b1, _⟩ := B0_base hG E (foldN (fun i h => upd h i 0) 8 b) G.length (Nat.le_refl _)
  obtain ⟨c1, c2, c3⟩ := CC_props (B0 G E b) 8 (Nat.le_refl _)
  apply sb_anti
  · refine c3 (SL G E) ?_ ?_ n hn
    · exact B0_low hG E (fun i hi => by rw [hz i hi]; exact sb_zero _) (fun p hp => SL_closed hG E _ p hp (Or.inl rfl)) _ (Nat.le_refl _)
    · intro m n hm hn ht
      refine SL_low hG E m fun p hp hc => SL_closed hG E n p hp ?_
      rcases hc with hc | hc
      · exact Or.inr (by rw [hc]; exact ht)
      · exact Or.inr hc
  · refine SL_low hG E n fun p hp hc => ?_
    have h8 := (okG_gp hG hp).1
    have hb := sb_trans (b1 p hp) (c1 _ h8)
    rcases hc with hc | hc
    · rw [hc] at hb; exact hb
    · exact sb_trans hb (c2 _ h8 n hn hc)
