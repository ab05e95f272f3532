/-! THE REFERENCE'S example -/
theorem whq5 {K A A1 A2 A3 A4 ρ : Type} {B : K → (Int32 → A1 → A2 → A3 → A4 → Option ρ) → Int32 → A1 → A2 → A3 → A4 → Option ρ} {k : K → A1 → A2 → A3 → A4 → Option ρ} (Rel : A → A1 → A2 → A3 → A4 → Prop) (Fin : A → A1 → A2 → A3 → A4 → Prop) (m : A → Nat)
    (h0 : ∀ κ rc a1 a2 a3 a4, B κ rc 0 a1 a2 a3 a4 = k κ a1 a2 a3 a4)
    (h1 : ∀ a a1 a2 a3 a4, Rel a a1 a2 a3 a4 → ∃ ch a' b1 b2 b3 b4, (∀ κ rc, B κ rc 1 a1 a2 a3 a4 = rc (b01 ch) b1 b2 b3 b4) ∧ (ch = true → Rel a' b1 b2 b3 b4 ∧ m a' < m a) ∧ (ch = false → Fin a' b1 b2 b3 b4))
    (N : Nat) (a : A) (a1 : A1) (a2 : A2) (a3 : A3) (a4 : A4) (hR : Rel a a1 a2 a3 a4) (hm : m a ≤ 900) (hN : 2000 < N) : ∃ a b1 b2 b3 b4, Fin a b1 b2 b3 b4 ∧ ∀ κ, itr5 (B κ) N 1 a1 a2 a3 a4 = k κ b1 b2 b3 b4 := by
  refine vlq5 (B := B) (fun j f a1 a2 a3 a4 => (f = 1 ∧ ∃ a, Rel a a1 a2 a3 a4 ∧ j + m a ≤ 900) ∨ (f = 0 ∧ ∃ a, Fin a a1 a2 a3 a4)) (fun o => ∃ a b1 b2 b3 b4, Fin a b1 b2 b3 b4 ∧ ∀ κ, o κ = k κ b1 b2 b3 b4) 950 ?_ ?_ N 1 a1 a2 a3 a4 (by omega) (Or.inl ⟨rfl, a, hR, by omega⟩)
  · rintro j f a1 a2 a3 a4 hj (⟨rfl, a, ha, hja⟩ | ⟨rfl, a, ha⟩)
    · obtain ⟨ch, a', b1, b2, b3, b4, e1, e2, e3⟩ := h1 a a1 a2 a3 a4 ha
      refine Or.inl ⟨b01 ch, b1, b2, b3, b4, ?_, e1⟩
      cases ch with
      | true => obtain ⟨x1, x2⟩ := e2 rfl; exact Or.inl ⟨rfl, a', x1, by omega⟩
      | false => exact Or.inr ⟨rfl, a', e3 rfl⟩
    · exact Or.inr ⟨fun κ => k κ a1 a2 a3 a4, ⟨a, a1, a2, a3, a4, ha, fun _ => rfl⟩, fun κ rc => h0 κ rc a1 a2 a3 a4⟩
  · rintro f a1 a2 a3 a4 (⟨rfl, a, ha, hja⟩ | ⟨rfl, a, ha⟩)
    · omega
    · exact ⟨fun κ => k κ a1 a2 a3 a4, ⟨a, a1, a2, a3, a4, ha, fun _ => rfl⟩, fun κ rc => h0 κ rc a1 a2 a3 a4⟩
theorem stl_in {E : Int32} {pv : vW} {β : Nat → wW} : ∀ (w : List Nat), stl E pv β w = wNo ∨ ∃ i, i < w.length ∧ van E (w.take i) = true ∧ stl E pv β w = bev pv w i β
  | [] => Or.inl rfl
  | s :: r => by
    have e0 : bev pv (s :: r) 0 β = catW (β s) (clv pv r) := rfl
    simp only [stl]
    by_cases hb : nb E s = true
    · rw [if_pos hb]
      rcases stl_in (E := E) (pv := pv) (β := β) r with h | ⟨i, h1, h2, h3⟩
      · rw [h, minW_no_r w0_9]
        exact Or.inr ⟨0, by simp, rfl, e0.symm⟩
      · by_cases hlt : ky w0 (stl E pv β r) < ky w0 (catW (β s) (clv pv r))
        · rw [minW_eq_lt hlt]
          refine Or.inr ⟨i + 1, by simpa using h1, by rw [List.take_succ_cons, van_cons, hb, h2]; rfl, h3⟩
        · rw [minW_eq_ge hlt]
          exact Or.inr ⟨0, by simp, rfl, e0.symm⟩
    · rw [if_neg hb]
      exact Or.inr ⟨0, by simp, rfl, e0.symm⟩
/-- lowering by each of the tails, one behind the other, is lowering by the least -/
def fW (E : Int32) (pv : vW) (β : Nat → wW) (w : List Nat) (l : Nat) (i : Nat) (v : vW) : vW := if van E (w.take i) = true then updW v l (minW w0 (v l) (bev pv w i β)) else v
theorem fW_at {E : Int32} {pv : vW} {β : Nat → wW} {w : List Nat} {l : Nat} {v : vW} : ∀ k, (∀ s, s ≠ l → foldN (fW E pv β w l) k v s = v s) ∧ ky w0 (foldN (fW E pv β w l) k v l) ≤ ky w0 (v l) ∧ (∀ i, i < k → van E (w.take i) = true → ky w0 (foldN (fW E pv β w l) k v l) ≤ ky w0 (bev pv w i β)) ∧ (foldN (fW E pv β w l) k v l = v l ∨ ∃ i, i < k ∧ van E (w.take i) = true ∧ foldN (fW E pv β w l) k v l = bev pv w i β)
  | 0 => ⟨fun _ _ => rfl, Nat.le_refl _, fun i hi => absurd hi (Nat.not_lt_zero _), Or.inl rfl⟩
  | k + 1 => by
    obtain ⟨a1, a2, a3, a4⟩ := fW_at (E := E) (pv := pv) (β := β) (w := w) (l := l) (v := v) k
    have hf : foldN (fW E pv β w l) (k + 1) v = fW E pv β w l k (foldN (fW E pv β w l) k v) := rfl
    rw [hf]
    generalize foldN (fW E pv β w l) k v = u at *
    unfold fW
    by_cases hv : van E (w.take k) = true
    · rw [if_pos hv]
      refine ⟨fun s hs => by rw [updW_n hs]; exact a1 s hs, ?_, ?_, ?_⟩
      · rw [updW_s]; exact Nat.le_trans (minW_le_l _ _ _) a2
      · intro i hi hvi
        rw [updW_s]
        by_cases e : i = k
        · subst e; exact minW_le_r _ _ _
        · exact Nat.le_trans (minW_le_l _ _ _) (a3 i (by omega) hvi)
      · rw [updW_s]
        by_cases hlt : ky w0 (bev pv w k β) < ky w0 (u l)
        · rw [minW_eq_lt hlt]; exact Or.inr ⟨k, by omega, hv, rfl⟩
        · rw [minW_eq_ge hlt]
          rcases a4 with h | ⟨i, h1, h2, h3⟩
          · exact Or.inl h
          · exact Or.inr ⟨i, by omega, h2, h3⟩
    · rw [if_neg hv]
      refine ⟨a1, a2, ?_, ?_⟩
      · intro i hi hvi
        by_cases e : i = k
        · subst e; exact absurd hvi hv
        · exact a3 i (by omega) hvi
      · rcases a4 with h | ⟨i, h1, h2, h3⟩
        · exact Or.inl h
        · exact Or.inr ⟨i, by omega, h2, h3⟩
theorem fW_stl {E : Int32} {pv : vW} {β : Nat → wW} {w : List Nat} {l : Nat} {v : vW} : foldN (fW E pv β w l) w.length v = updW v l (minW w0 (v l) (stl E pv β w)) := by
  obtain ⟨a1, a2, a3, a4⟩ := fW_at (E := E) (pv := pv) (β := β) (w := w) (l := l) (v := v) w.length
  funext s
  by_cases e : s = l
  · subst e
    rw [updW_s]
    apply ky_inj w0_9
    rw [minW_ky]
    have h1 : ky w0 (foldN (fW E pv β w s) w.length v s) ≤ ky w0 (stl E pv β w) := by
      rcases stl_in (E := E) (pv := pv) (β := β) w with h | ⟨i, h1, h2, h3⟩
      · rw [h, ky_no]; exact ky_le_top w0_9 _
      · rw [h3]; exact a3 i h1 h2
    have h2 : ky w0 (v s) ≤ ky w0 (foldN (fW E pv β w s) w.length v s) ∨ ky w0 (stl E pv β w) ≤ ky w0 (foldN (fW E pv β w s) w.length v s) := by
      rcases a4 with h | ⟨i, h1, h2, h3⟩
      · rw [h]; exact Or.inl (Nat.le_refl _)
      · rw [h3]; exact Or.inr (stl_le w i h1 h2)
    omega
  · rw [updW_n e]; exact a1 s e
section ME
variable {rules : Int32} {lefts sizes rights : Nat → Int32} {G : List gP} {E : Int32} {pv : vW} {tk : Nat}
theorem m_beginSweep (hM : RM rules lefts sizes rights G) (hG : okG G) (htk : tk ≤ 8) {strings longs trial : Nat → Int32} {tl : Int32} {bv v : vW} (hS : SV strings longs (gl pv bv v) 0 32) {N : Nat} (hN : 50 < N) : ∃ st lg tr tl', (∀ k, itr6 (bX12_example_22 N (nI tk) rules lefts sizes rights E k) N 0 0 strings longs trial tl = k (b01 (chN (dBm G E pv tk) (fBm G E pv tk) G.length bv)) st lg tr tl') ∧ SV st lg (gl pv (foldN (fBm G E pv tk) G.length bv) v) 0 32 := by
  have hl := hG.1
  refine vlq6 (B := fun k => bX12_example_22 N (nI tk) rules lefts sizes rights E k) (fun j f i st lg tr tl => i = nI j ∧ j ≤ G.length ∧ f = b01 (chN (dBm G E pv tk) (fBm G E pv tk) j bv) ∧ SV st lg (gl pv (foldN (fBm G E pv tk) j bv) v) 0 32) (fun r => ∃ st lg tr tl', (∀ k, r k = k (b01 (chN (dBm G E pv tk) (fBm G E pv tk) G.length bv)) st lg tr tl') ∧ SV st lg (gl pv (foldN (fBm G E pv tk) G.length bv) v) 0 32) G.length ?_ ?_ N 0 0 strings longs trial tl (by omega) ⟨rfl, Nat.zero_le _, rfl, hS⟩
  · rintro j f i st lg tr tl hj ⟨rfl, _, rfl, hS1⟩
    left
    obtain ⟨st', lg', tr', tl', e, hS2⟩ := m_begins hM hG htk hj (E := E) (trial := tr) (tl := tl) hS1 hN
    have hch : chN (dBm G E pv tk) (fBm G E pv tk) (j + 1) bv = (chN (dBm G E pv tk) (fBm G E pv tk) j bv || chN (dBi E pv tk (gp G j)) (fBi E pv tk (gp G j)) (gp G j).2.length (foldN (fBm G E pv tk) j bv)) := rfl
    have hfs : foldN (fBm G E pv tk) (j + 1) bv = foldN (fBi E pv tk (gp G j)) (gp G j).2.length (foldN (fBm G E pv tk) j bv) := rfl
    rw [hch, hfs]
    generalize chN (dBi E pv tk (gp G j)) (fBi E pv tk (gp G j)) (gp G j).2.length (foldN (fBm G E pv tk) j bv) = d at *
    generalize chN (dBm G E pv tk) (fBm G E pv tk) j bv = c at *
    refine ⟨b01 (c || d), nI (j + 1), st', lg', tr', tl', ⟨rfl, by omega, rfl, hS2⟩, fun k rc => ?_⟩
    simp only [bX12_example_22]
    rw [hM.1, if_neg (nI_ge hj (by omega)), e]
    simp only [bd5, obs, jn_, lt_, nI_1]
    rw [fl_or (F := fun x => rc x (nI (j + 1)) st' lg' tr' tl')]
  · rintro f i st lg tr tl ⟨rfl, _, rfl, hS1⟩
    refine ⟨_, ⟨st, lg, tr, tl, fun _ => rfl, hS1⟩, fun k rc => ?_⟩
    simp only [bX12_example_22]
    rw [hM.1, if_pos (Int32.le_refl _)]
theorem m_repSweep (hM : RM rules lefts sizes rights G) (hG : okG G) (htk : tk ≤ 8) {strings longs trial : Nat → Int32} {tl : Int32} {bv v : vW} (hS : SV strings longs (gl pv bv v) 0 32) {N : Nat} (hN : 50 < N) : ∃ st lg tr tl', (∀ k, itr6 (bX12_example_158 N (nI tk) rules lefts sizes rights E k) N 0 0 strings longs trial tl = k (b01 (chN (dRk G E pv (bS tk bv)) (fRk G E pv (bS tk bv)) G.length v)) st lg tr tl') ∧ SV st lg (gl pv bv (foldN (fRk G E pv (bS tk bv)) G.length v)) 0 32 := by
  have hl := hG.1
  refine vlq6 (B := fun k => bX12_example_158 N (nI tk) rules lefts sizes rights E k) (fun j f i st lg tr tl => i = nI j ∧ j ≤ G.length ∧ f = b01 (chN (dRk G E pv (bS tk bv)) (fRk G E pv (bS tk bv)) j v) ∧ SV st lg (gl pv bv (foldN (fRk G E pv (bS tk bv)) j v)) 0 32) (fun r => ∃ st lg tr tl', (∀ k, r k = k (b01 (chN (dRk G E pv (bS tk bv)) (fRk G E pv (bS tk bv)) G.length v)) st lg tr tl') ∧ SV st lg (gl pv bv (foldN (fRk G E pv (bS tk bv)) G.length v)) 0 32) G.length ?_ ?_ N 0 0 strings longs trial tl (by omega) ⟨rfl, Nat.zero_le _, rfl, hS⟩
  · rintro j f i st lg tr tl hj ⟨rfl, _, rfl, hS1⟩
    left
    obtain ⟨st', lg', tr', tl', e, hS2⟩ := m_replaces hM hG htk hj (E := E) (trial := tr) (tl := tl) hS1 hN
    have hch : chN (dRk G E pv (bS tk bv)) (fRk G E pv (bS tk bv)) (j + 1) v = (chN (dRk G E pv (bS tk bv)) (fRk G E pv (bS tk bv)) j v || dRk G E pv (bS tk bv) j (foldN (fRk G E pv (bS tk bv)) j v)) := rfl
    have hfs : foldN (fRk G E pv (bS tk bv)) (j + 1) v = fRk G E pv (bS tk bv) j (foldN (fRk G E pv (bS tk bv)) j v) := rfl
    rw [hch, hfs]
    generalize dRk G E pv (bS tk bv) j (foldN (fRk G E pv (bS tk bv)) j v) = d at *
    generalize chN (dRk G E pv (bS tk bv)) (fRk G E pv (bS tk bv)) j v = c at *
    refine ⟨b01 (c || d), nI (j + 1), st', lg', tr', tl', ⟨rfl, by omega, rfl, hS2⟩, fun k rc => ?_⟩
    simp only [bX12_example_158]
    rw [hM.1, if_neg (nI_ge hj (by omega)), e]
    simp only [bd5, obs, jn_, lt_, nI_1]
    rw [fl_or (F := fun x => rc x (nI (j + 1)) st' lg' tr' tl')]
  · rintro f i st lg tr tl ⟨rfl, _, rfl, hS1⟩
    refine ⟨_, ⟨st, lg, tr, tl, fun _ => rfl, hS1⟩, fun k rc => ?_⟩
    simp only [bX12_example_158]
    rw [hM.1, if_pos (Int32.le_refl _)]
theorem m_exBegin (hM : RM rules lefts sizes rights G) (hG : okG G) (htk : tk ≤ 8) {strings longs trial : Nat → Int32} {tl : Int32} {v : vW} (hS : SV strings longs (gl pv (fun _ => wNo) v) 0 32) {N : Nat} (hN : 2000 < N) : ∃ bv st lg tr tl', (SV st lg (gl pv bv v) 0 32 ∧ BegOK G E pv tk bv) ∧ ∀ k94, itr5 (bX12_example_11 N (nI tk) rules lefts sizes rights E k94) N 1 strings longs trial tl = k94 st lg tr tl' := by
  obtain ⟨m, hm8, hm⟩ := sweep_Bm hG E pv tk
  refine whq5 (B := fun k94 => bX12_example_11 N (nI tk) rules lefts sizes rights E k94) (k := fun k94 => k94) (fun (bv : vW) st lg tr tl => upR w0 8 (RB G E pv tk) bv ∧ SV st lg (gl pv bv v) 0 32) (fun bv st lg tr tl => SV st lg (gl pv bv v) 0 32 ∧ BegOK G E pv tk bv) m ?_ ?_ N (fun _ => wNo) strings longs trial tl ⟨upR_no w0_9, hS⟩ (by have := hm8 (fun _ => wNo); omega) hN
  · intro k94 rc a1 a2 a3 a4
    simp only [bX12_example_11, if_true]
  · rintro bv st lg tr tl ⟨hup, hS1⟩
    obtain ⟨u1, u2, u3⟩ := hm bv hup
    obtain ⟨st', lg', tr', tl', e, hS2⟩ := m_beginSweep hM hG htk (E := E) (trial := tr) (tl := tl) hS1 (show 50 < N by omega)
    refine ⟨chN (dBm G E pv tk) (fBm G E pv tk) G.length bv, foldN (fBm G E pv tk) G.length bv, st', lg', tr', tl', fun k94 rc => ?_, fun hch => ⟨⟨u1, hS2⟩, u2 hch⟩, fun hch => ?_⟩
    · simp only [bX12_example_11]
      rw [if_neg (by decide)]
      simp only [jn5, e]
    · obtain ⟨x1, x2⟩ := u3 hch
      rw [x1] at hS2 ⊢
      exact ⟨hS2, x2, hup⟩
theorem m_exRep (hM : RM rules lefts sizes rights G) (hG : okG G) (htk : tk ≤ 8) {q : gP} {strings longs trial : Nat → Int32} {tl : Int32} {bv : vW} (hS : SV strings longs (gl pv bv (baseM E pv (bS tk bv) q)) 0 32) {N : Nat} (hN : 2000 < N) : ∃ v st lg tr tl', (SV st lg (gl pv bv v) 0 32 ∧ MarkOK G E pv (bS tk bv) q v) ∧ ∀ k20, itr5 (bX12_example_147 N (nI tk) rules lefts sizes rights E k20) N 1 strings longs trial tl = k20 st lg tr tl' := by
  obtain ⟨m, hm16, hm⟩ := sweep_Rk (b := baseM E pv (bS tk bv) q) (E := E) (pv := pv) (β := bS tk bv) hG
  refine whq5 (B := fun k20 => bX12_example_147 N (nI tk) rules lefts sizes rights E k20) (k := fun k20 => k20) (fun (v : vW) st lg tr tl => leV w0 16 v (baseM E pv (bS tk bv) q) ∧ upR w0 16 (RK G E pv (bS tk bv) (baseM E pv (bS tk bv) q)) v ∧ SV st lg (gl pv bv v) 0 32) (fun v st lg tr tl => SV st lg (gl pv bv v) 0 32 ∧ MarkOK G E pv (bS tk bv) q v) m ?_ ?_ N (baseM E pv (bS tk bv) q) strings longs trial tl ⟨leV_rfl _, upR_base, hS⟩ (by have := hm16 (baseM E pv (bS tk bv) q); omega) hN
  · intro k20 rc a1 a2 a3 a4
    simp only [bX12_example_147, if_true]
  · rintro v st lg tr tl ⟨hle, hup, hS1⟩
    obtain ⟨u0, u1, u2, u3⟩ := hm v hle hup
    obtain ⟨st', lg', tr', tl', e, hS2⟩ := m_repSweep hM hG htk (E := E) (trial := tr) (tl := tl) hS1 (show 50 < N by omega)
    refine ⟨chN (dRk G E pv (bS tk bv)) (fRk G E pv (bS tk bv)) G.length v, foldN (fRk G E pv (bS tk bv)) G.length v, st', lg', tr', tl', fun k20 rc => ?_, fun hch => ⟨⟨u0, u1, hS2⟩, u2 hch⟩, fun hch => ?_⟩
    · simp only [bX12_example_147]
      rw [if_neg (by decide)]
      simp only [jn5, e]
    · obtain ⟨x1, x2⟩ := u3 hch
      rw [x1] at hS2 ⊢
      exact ⟨hS2, x2, hup⟩
/-- the strings of the production itself -/
theorem m_exWithin (hM : RM rules lefts sizes rights G) (hG : okG G) (htk : tk ≤ 8) {p l : Nat} (hl8 : l < 8) (hp : p < G.length) {strings longs trial : Nat → Int32} {tl : Int32} {bv v : vW} (hS : SV strings longs (gl pv bv v) 0 32) {N : Nat} (hN : 50 < N) : ∃ st lg tr tl', (∀ k64, itr5 (bX12_example_65 N (nI l) (nI tk) (nI p) sizes rights E k64 k64) N 0 strings longs trial tl = k64 st lg tr tl') ∧ SV st lg (gl pv bv (updW v l (minW w0 (v l) (stl E pv (bS tk bv) (gp G p).2)))) 0 32 := by
  have hq := okG_gp hG hp
  have h5 := hq.2.1
  have hl := hG.1
  rw [← fW_stl]
  refine vlq5 (B := fun k64 => bX12_example_65 N (nI l) (nI tk) (nI p) sizes rights E k64 k64) (fun j i st lg tr tl => i = nI j ∧ j ≤ (gp G p).2.length ∧ van E ((gp G p).2.take j) = true ∧ SV st lg (gl pv bv (foldN (fW E pv (bS tk bv) (gp G p).2 l) j v)) 0 32) (fun r => ∃ st lg tr tl', (∀ k64, r k64 = k64 st lg tr tl') ∧ SV st lg (gl pv bv (foldN (fW E pv (bS tk bv) (gp G p).2 l) (gp G p).2.length v)) 0 32) (gp G p).2.length ?_ ?_ N 0 strings longs trial tl (by omega) ⟨rfl, Nat.zero_le _, rfl, hS⟩
  · rintro j i st lg tr tl hj ⟨rfl, _, hvan, hS1⟩
    have hs18 := okS_lt (okP_sy hq hj)
    have hfs : foldN (fW E pv (bS tk bv) (gp G p).2 l) (j + 1) v = fW E pv (bS tk bv) (gp G p).2 l j (foldN (fW E pv (bS tk bv) (gp G p).2 l) j v) := rfl
    have hstop := fun (hn : nb E (sy (gp G p).2 j) = false) => fold_stop (d := fun _ _ => false) (f := fW E pv (bS tk bv) (gp G p).2 l) (v := v) (j := j + 1) (gp G p).2.length (by omega) (fun i h1 h2 v => by
      have := van_take_no hj hn (show j < i by omega)
      unfold fW
      rw [this]
      exact ⟨rfl, rfl⟩)
    generalize hue : foldN (fW E pv (bS tk bv) (gp G p).2 l) j v = u at *
    obtain ⟨o, e1, hT⟩ := m_addsBegun hM hG htk hp hj (x := some []) wEm.2 hS1 (TR_em tr) hN
    rw [cat_em_l (bev pv (gp G p).2 j (bS tk bv)).2] at hT
    obtain ⟨st', lg', e2, hS2⟩ := m_bettersV (by decide : 32 ≤ 32) (Nat.zero_le _) (show 16 + l < 32 by omega) hS1 hT hN
    rw [gl_16] at e2 hS2
    rw [gl_upd16] at hS2
    have hf1 : fW E pv (bS tk bv) (gp G p).2 l j u = updW u l (minW w0 (u l) (bev pv (gp G p).2 j (bS tk bv))) := by unfold fW; rw [if_pos hvan]
    rw [← hf1] at hS2
    have e16 : (16 : Int32) + nI l = nI (16 + l) := nI_add 16 _
    generalize decide (ky w0 (bev pv (gp G p).2 j (bS tk bv)) < ky w0 (u l)) = d at *
    have hstep : ∀ k64 rc, bX12_example_65 N (nI l) (nI tk) (nI p) sizes rights E k64 k64 rc (nI j) st lg tr tl = if nb E (sy (gp G p).2 j) = true then rc (nI (j + 1)) st' lg' o.1 o.2 else k64 st' lg' o.1 o.2 := by
      intro k64 rc
      simp only [bX12_example_65, ag_ok (show p < 24 by omega), obs, (hM.2 p hp).2.1]
      rw [if_neg (nI_ge hj (by omega))]
      simp only [m_tries, obs, e1, bd2, e16, e2, bd3, lt_, m_symbol hM hG hp hj, m_isEmpty E hs18, nI_1]
      cases nb E (sy (gp G p).2 j) <;> rfl
    cases hn : nb E (sy (gp G p).2 j) with
    | true =>
      left
      exact ⟨nI (j + 1), st', lg', o.1, o.2, ⟨rfl, by omega, by rw [van_take_succ hj, hvan, hn]; rfl, by rw [hfs]; exact hS2⟩, fun k64 rc => by rw [hstep, hn, if_pos rfl]⟩
    | false =>
      right
      refine ⟨_, ⟨st', lg', o.1, o.2, fun _ => rfl, by rw [(hstop hn).1, hfs]; exact hS2⟩, fun k64 rc => by rw [hstep, hn, if_neg (by decide)]⟩
  · rintro i st lg tr tl ⟨rfl, _, hvan, hS1⟩
    refine ⟨_, ⟨st, lg, tr, tl, fun _ => rfl, hS1⟩, fun k64 rc => ?_⟩
    simp only [bX12_example_65, ag_ok (show p < 24 by omega), obs, (hM.2 p hp).2.1]
    rw [if_pos (Int32.le_refl _)]
theorem ex_flow {N : Nat} {rules p1 p2 p3 : Int32} {lefts sizes rights : Nat → Int32} {E : Int32} {strings longs trial lg0 st1 lg1 tr1 st2 lg2 tr2 st3 lg3 st4 lg4 tr4 : Nat → Int32} {tl tl1 tl2 tl3 tl4 : Int32} {e : Bool}
    (h0 : fX12_empties N longs 8 32 = some lg0)
    (h1 : ∀ k94, itr5 (bX12_example_11 N p2 rules lefts sizes rights E k94) N 1 strings lg0 trial tl = k94 st1 lg1 tr1 tl1)
    (h2 : ∀ k64, itr5 (bX12_example_65 N p1 p2 p3 sizes rights E k64 k64) N 0 st1 lg1 tr1 tl1 = k64 st2 lg2 tr2 tl2)
    (h3 : fX12_areEmpty N sizes rights E p3 0 = some (b01 e))
    (h4 : (e = false ∧ st3 = st2 ∧ lg3 = lg2 ∧ tl3 = tl2) ∨ (e = true ∧ tl3 = 0 ∧ ∃ f, fX12_betters N st2 lg2 tr2 0 (24 + p1) = some (f, st3, lg3)))
    (h5 : ∀ k20, itr5 (bX12_example_147 N p2 rules lefts sizes rights E k20) N 1 st3 lg3 tr2 tl3 = k20 st4 lg4 tr4 tl4) :
    fX12_example N rules lefts sizes rights E strings longs trial tl p1 p2 p3 = some (if p2 = 8 then 24 else 16, st4, lg4, tr4, tl4) := by
  simp only [fX12_example, h0, obs]
  simp only [jn4]
  rw [h1, h2]
  simp only [h3, obs, jn3]
  rcases h4 with ⟨rfl, rfl, rfl, rfl⟩ | ⟨rfl, rfl, f, h4⟩
  · rw [if_pos (by rfl), h5]
    simp only [jn_]
    by_cases h8 : p2 = 8
    · rw [if_pos h8, if_pos h8]
    · rw [if_neg h8, if_neg h8]
  · rw [if_neg (by decide)]
    simp only [m_tries, obs, h4, bd3]
    rw [h5]
    simp only [jn_]
    by_cases h8 : p2 = 8
    · rw [if_pos h8, if_pos h8]
    · rw [if_neg h8, if_neg h8]
theorem m_example (hM : RM rules lefts sizes rights G) (hG : okG G) (htk : tk ≤ 8) {m : Nat} (hm : m < G.length) {strings longs : Nat → Int32} (trial : Nat → Int32) (tl : Int32) (hS : SV strings longs pv 0 8) {N : Nat} (hN : 2000 < N) : ∃ st lg tr tl' bv v, fX12_example N rules lefts sizes rights E strings longs trial tl (nI (gp G m).1) (nI tk) (nI m) = some (nI (if tk = 8 then 24 else 16), st, lg, tr, tl') ∧ SV st lg (gl pv bv v) 0 32 ∧ BegOK G E pv tk bv ∧ MarkOK G E pv (bS tk bv) (gp G m) v := by
  have hq := okG_gp hG hm
  have h8 := hq.1
  obtain ⟨lg0, e0, q1, q2⟩ := m_empties longs (a := 8) (b := 32) (by omega) (by omega) (show 50 < N by omega)
  have S0 : SV strings lg0 (gl pv (fun _ => wNo) (fun _ => wNo)) 0 32 := by
    intro s _ hs
    by_cases h : s < 8
    · have := hS s (Nat.zero_le _) h
      rw [gl_0 h]
      exact ⟨by rw [q2 s (Or.inl h)]; exact this.1, this.2⟩
    · have : gl pv (fun _ => wNo) (fun _ => wNo) s = wNo := by
        unfold gl
        rw [if_neg h, ite_self]
      rw [this]
      exact ⟨q1 s (by omega) hs, fun u hu => by simp [wNo] at hu⟩
  obtain ⟨bv, st1, lg1, tr1, tl1, ⟨S1, B1⟩, e1⟩ := m_exBegin hM hG htk (E := E) (trial := trial) (tl := tl) S0 hN
  obtain ⟨st2, lg2, tr2, tl2, e2, S2⟩ := m_exWithin hM hG htk h8 hm (E := E) (trial := tr1) (tl := tl1) S1 (show 50 < N by omega)
  have e3 := m_areEmpty0 hM hG E hm (show 5 < N by omega)
  have z8 : (nI 8 : Int32) = 8 := rfl
  have z32 : (nI 32 : Int32) = 32 := rfl
  rw [z8, z32] at e0
  rw [minW_no w0_9] at S2
  have hres : (if nI tk = 8 then (24 : Int32) else 16) = nI (if tk = 8 then 24 else 16) := by
    by_cases e : tk = 8
    · rw [if_pos (by rw [e]; rfl), if_pos e]; rfl
    · rw [if_neg (neL 8 8 e (by omega)), if_neg e]; rfl
  have base : ∀ x, updW (updW (fun _ => wNo) (gp G m).1 (stl E pv (bS tk bv) (gp G m).2)) (8 + (gp G m).1) x = updW (updW (fun _ => wNo) (8 + (gp G m).1) x) (gp G m).1 (stl E pv (bS tk bv) (gp G m).2) := by
    intro x
    funext s
    unfold updW
    by_cases a : s = (gp G m).1
    · rw [if_neg (by omega), if_pos a, if_pos a]
    · by_cases b : s = 8 + (gp G m).1
      · rw [if_pos b, if_neg a, if_pos b]
      · rw [if_neg b, if_neg a, if_neg a, if_neg b]
  cases hvan : van E (gp G m).2 with
  | false =>
    have hb : updW (fun _ => wNo) (gp G m).1 (stl E pv (bS tk bv) (gp G m).2) = baseM E pv (bS tk bv) (gp G m) := by
      unfold baseM
      rw [hvan, if_neg (by decide), updW_same]
    rw [hb] at S2
    obtain ⟨v, st4, lg4, tr4, tl4, ⟨S4, K4⟩, e5⟩ := m_exRep hM hG htk (trial := tr2) (tl := tl2) S2 hN
    exact ⟨st4, lg4, tr4, tl4, bv, v, by rw [ex_flow e0 e1 e2 e3 (Or.inl ⟨hvan, rfl, rfl, rfl⟩) e5, hres], S4, B1, K4⟩
  | true =>
    obtain ⟨st3, lg3, e4, S3⟩ := m_bettersV (x := wEm) (by decide : 32 ≤ 32) (Nat.zero_le _) (show 16 + (8 + (gp G m).1) < 32 by omega) S2 (TR_em tr2) (show 50 < N by omega)
    rw [gl_16] at e4 S3
    rw [gl_upd16, updW_n (by omega), minW_no w0_9, base] at S3
    have hb : updW (updW (fun _ => wNo) (8 + (gp G m).1) wEm) (gp G m).1 (stl E pv (bS tk bv) (gp G m).2) = baseM E pv (bS tk bv) (gp G m) := by
      unfold baseM
      rw [hvan, if_pos rfl]
    rw [hb] at S3
    obtain ⟨v, st4, lg4, tr4, tl4, ⟨S4, K4⟩, e5⟩ := m_exRep hM hG htk (trial := tr2) (tl := 0) S3 hN
    have e24l : (24 : Int32) + nI (gp G m).1 = nI (16 + (8 + (gp G m).1)) := by
      have : (24 : Int32) = nI 24 := rfl
      rw [this, nI_add]; congr 1; omega
    exact ⟨st4, lg4, tr4, tl4, bv, v, by rw [ex_flow e0 e1 e2 e3 (Or.inr ⟨hvan, rfl, _, by rw [e24l]; exact e4⟩) e5, hres], S4, B1, K4⟩
end ME
