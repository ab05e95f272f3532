/-! WHILE loops of the reference, the flag first -/
theorem whl5 {A A1 A2 A3 A4 ρ : Type} {B : (Int32 → A1 → A2 → A3 → A4 → Option ρ) → Int32 → A1 → A2 → A3 → A4 → Option ρ} {k : A1 → A2 → A3 → A4 → Option ρ} (Rel : A → A1 → A2 → A3 → A4 → Prop) (Fin : A → A1 → A2 → A3 → A4 → Prop) (m : A → Nat)
    (h0 : ∀ rc a1 a2 a3 a4, B rc 0 a1 a2 a3 a4 = k a1 a2 a3 a4)
    (h1 : ∀ a a1 a2 a3 a4, Rel a a1 a2 a3 a4 → ∃ ch a' b1 b2 b3 b4, (∀ rc, B rc 1 a1 a2 a3 a4 = rc (b01 ch) b1 b2 b3 b4) ∧ (ch = true → Rel a' b1 b2 b3 b4 ∧ m a' < m a) ∧ (ch = false → Fin a' b1 b2 b3 b4))
    (N : Nat) (a : A) (a1 : A1) (a2 : A2) (a3 : A3) (a4 : A4) (hR : Rel a a1 a2 a3 a4) (hm : m a ≤ 900) (hN : 2000 < N) : ∃ a b1 b2 b3 b4, Fin a b1 b2 b3 b4 ∧ itr5 B N 1 a1 a2 a3 a4 = k b1 b2 b3 b4 := by
  refine vlp5 (fun j f a1 a2 a3 a4 => (f = 1 ∧ ∃ a, Rel a a1 a2 a3 a4 ∧ j + m a ≤ 900) ∨ (f = 0 ∧ ∃ a, Fin a a1 a2 a3 a4)) (fun o => ∃ a b1 b2 b3 b4, Fin a b1 b2 b3 b4 ∧ o = k b1 b2 b3 b4) 950 ?_ ?_ N 1 a1 a2 a3 a4 (by omega) (Or.inl ⟨rfl, a, hR, by omega⟩)
  · rintro j f a1 a2 a3 a4 hj (⟨rfl, a, ha, hja⟩ | ⟨rfl, a, ha⟩)
    · obtain ⟨ch, a', b1, b2, b3, b4, e1, e2, e3⟩ := h1 a a1 a2 a3 a4 ha
      refine Or.inl ⟨b01 ch, b1, b2, b3, b4, ?_, e1⟩
      cases ch with
      | true => obtain ⟨x1, x2⟩ := e2 rfl; exact Or.inl ⟨rfl, a', x1, by omega⟩
      | false => exact Or.inr ⟨rfl, a', e3 rfl⟩
    · exact Or.inr ⟨_, ⟨a, a1, a2, a3, a4, ha, rfl⟩, fun rc => h0 rc a1 a2 a3 a4⟩
  · rintro f a1 a2 a3 a4 (⟨rfl, a, ha, hja⟩ | ⟨rfl, a, ha⟩)
    · omega
    · exact ⟨_, ⟨a, a1, a2, a3, a4, ha, rfl⟩, fun rc => h0 rc a1 a2 a3 a4⟩
theorem m_empties (longs : Nat → Int32) {a b : Nat} (hab : a ≤ b) (hb : b ≤ 32) {N : Nat} (hN : 50 < N) : ∃ lg', fX12_empties N longs (nI a) (nI b) = some lg' ∧ (∀ s, a ≤ s → s < b → lg' s = -1) ∧ ∀ s, (s < a ∨ b ≤ s) → lg' s = longs s := by
  simp only [fX12_empties, jn_]
  refine vlp2 (B := bX12_empties_2 (nI b) fun v1 => some v1) (fun j i lg => i = nI (a + j) ∧ j ≤ b - a ∧ (∀ s, a ≤ s → s < a + j → lg s = -1) ∧ ∀ s, (s < a ∨ a + j ≤ s) → lg s = longs s) (fun r => ∃ lg', r = some lg' ∧ (∀ s, a ≤ s → s < b → lg' s = -1) ∧ ∀ s, (s < a ∨ b ≤ s) → lg' s = longs s) (b - a) ?_ ?_ N (nI a) longs (by omega) ⟨rfl, Nat.zero_le _, fun s h1 h2 => by omega, fun _ _ => rfl⟩
  · rintro j i lg hj ⟨rfl, _, h1, h2⟩
    left
    refine ⟨nI (a + (j + 1)), upd lg (a + j) (-1), ⟨rfl, by omega, fun s q1 q2 => ?_, fun s q => ?_⟩, fun rc => ?_⟩
    · by_cases e : s = a + j
      · subst e; exact pk_us
      · rw [pk_un e]; exact h1 s q1 (by omega)
    · rw [pk_un (by omega)]; exact h2 s (by omega)
    · simp only [bX12_empties_2]
      rw [if_neg (nI_ge (by omega) (by omega)), as_ok (show a + j < 32 by omega)]
      simp only [obs, lt_, nI_1]
      rfl
  · rintro i lg ⟨rfl, _, h1, h2⟩
    refine ⟨_, ⟨lg, rfl, fun s q1 q2 => h1 s q1 (by omega), fun s q => h2 s (by omega)⟩, fun rc => ?_⟩
    simp only [bX12_empties_2]
    rw [if_pos (nI_le (by omega) (by omega))]
section MSH
variable {rules : Int32} {lefts sizes rights : Nat → Int32} {G : List gP}
theorem m_shortSweep (hM : RM rules lefts sizes rights G) (hG : okG G) {strings longs trial : Nat → Int32} {tl : Int32} {v : vW} (hS : SV strings longs v 0 8) {N : Nat} (hN : 50 < N) : ∃ st lg tr tl', (∀ k, itr6 (bX12_shortens_17 N rules lefts sizes rights k) N 0 0 strings longs trial tl = k (b01 (chN (dP G) (fP G) G.length v)) st lg tr tl') ∧ SV st lg (foldN (fP G) G.length v) 0 8 := by
  have hl := hG.1
  refine vlq6 (B := fun k => bX12_shortens_17 N rules lefts sizes rights k) (fun j f i st lg tr tl => i = nI j ∧ j ≤ G.length ∧ f = b01 (chN (dP G) (fP G) j v) ∧ SV st lg (foldN (fP G) j v) 0 8) (fun r => ∃ st lg tr tl', (∀ k, r k = k (b01 (chN (dP G) (fP G) G.length v)) st lg tr tl') ∧ SV st lg (foldN (fP G) G.length v) 0 8) G.length ?_ ?_ N 0 0 strings longs trial tl (by omega) ⟨rfl, Nat.zero_le _, rfl, hS⟩
  · rintro j f i st lg tr tl hj ⟨rfl, _, rfl, hS1⟩
    left
    have hq := okG_gp hG hj
    have h8 := hq.1
    have hu : foldN (fP G) (j + 1) v = fP G j (foldN (fP G) j v) := rfl
    have hch : chN (dP G) (fP G) (j + 1) v = (chN (dP G) (fP G) j v || dP G j (foldN (fP G) j v)) := rfl
    rw [hch, hu]
    generalize foldN (fP G) j v = u at *
    obtain ⟨o, e1, hT⟩ := m_addsShortest hM hG hj (v := u) (x := some []) wEm.2 (fun n hn => hS1 n (Nat.zero_le _) hn) (TR_em tr) (Nat.zero_le _) (Nat.le_refl _) hN
    rw [List.drop_zero, Nat.sub_zero, List.take_length, cat_em_l (clv u _).2] at hT
    obtain ⟨st', lg', e2, hS2⟩ := m_bettersV (by decide : 8 ≤ 32) (Nat.zero_le _) h8 hS1 hT hN
    refine ⟨b01 (chN (dP G) (fP G) j v || dP G j u), nI (j + 1), st', lg', o.1, o.2, ⟨rfl, by omega, rfl, hS2⟩, fun k rc => ?_⟩
    have z0 : (nI 0 : Int32) = 0 := rfl
    rw [z0] at e1
    simp only [bX12_shortens_17]
    rw [hM.1, if_neg (nI_ge hj (by omega)), ag_ok (show j < 24 by omega)]
    simp only [m_tries, obs, (hM.2 j hj).2.1, e1, bd2, ag_ok (show j < 24 by omega), (hM.2 j hj).1, e2, bd3, jn_, lt_, nI_1]
    rw [fl_or (F := fun x => rc x (nI (j + 1)) st' lg' o.1 o.2)]
    rfl
  · rintro f i st lg tr tl ⟨rfl, _, rfl, hS1⟩
    refine ⟨_, ⟨st, lg, tr, tl, fun _ => rfl, hS1⟩, fun k rc => ?_⟩
    simp only [bX12_shortens_17]
    rw [hM.1, if_pos (Int32.le_refl _)]
theorem m_shortens (hM : RM rules lefts sizes rights G) (hG : okG G) (strings longs trial : Nat → Int32) (tl : Int32) {N : Nat} (hN : 2000 < N) : ∃ st lg tr tl' v, fX12_shortens N rules lefts sizes rights strings longs trial tl = some (st, lg, tr, tl') ∧ SV st lg v 0 8 ∧ PlainOK G v := by
  obtain ⟨m, hm8, hm⟩ := sweep_P hG
  obtain ⟨lg0, e0, q1, _⟩ := m_empties longs (a := 0) (b := 8) (by omega) (by omega) (show 50 < N by omega)
  have z0 : (nI 0 : Int32) = 0 := rfl
  have z8 : (nI 8 : Int32) = 8 := rfl
  rw [z0, z8] at e0
  simp only [fX12_shortens, e0, obs, jn4]
  have hr := whl5 (B := bX12_shortens_9 N rules lefts sizes rights fun v2 v3 v4 v5 => some (v2, v3, v4, v5)) (k := fun v2 v3 v4 v5 => some (v2, v3, v4, v5)) (fun (v : vW) st lg tr tl => upR w0 8 (RP G) v ∧ SV st lg v 0 8) (fun v st lg tr tl => SV st lg v 0 8 ∧ PlainOK G v) m ?_ ?_ N (fun _ => wNo) strings lg0 trial tl ⟨upR_no w0_9, fun s h1 h2 => ⟨q1 s h1 h2, fun u hu => by simp [wNo] at hu⟩⟩ (by have := hm8 (fun _ => wNo); omega) hN
  · obtain ⟨v, st, lg, tr, tl', ⟨h1, h2⟩, e⟩ := hr
    exact ⟨st, lg, tr, tl', v, e, h1, h2⟩
  · intro rc a1 a2 a3 a4
    simp only [bX12_shortens_9, if_true]
  · rintro v st lg tr tl ⟨hup, hS⟩
    obtain ⟨u1, u2, u3⟩ := hm v hup
    obtain ⟨st', lg', tr', tl', e, hS'⟩ := m_shortSweep hM hG (trial := tr) (tl := tl) hS (show 50 < N by omega)
    refine ⟨chN (dP G) (fP G) G.length v, foldN (fP G) G.length v, st', lg', tr', tl', fun rc => ?_, fun hch => ⟨⟨u1, hS'⟩, u2 hch⟩, fun hch => ?_⟩
    · simp only [bX12_shortens_9]
      rw [if_neg (by decide)]
      simp only [jn5, e]
    · obtain ⟨x1, x2⟩ := u3 hch
      rw [x1] at hS' ⊢
      exact ⟨hS', x2, hup⟩
end MSH
theorem PlainOK_uniq {G : List gP} {v w : vW} (h1 : PlainOK G v) (h2 : PlainOK G w) : ∀ s, s < 8 → v s = w s := least_uniq w0_9 h1.1 h1.2 h2.1 h2.2
