/-! THE REFERENCE'S SETS ARE THE CLASS'S -/
theorem bh_mono3 {E E' : Int32} {F F' : Nat → Int32} {b b' : Int32} (hE : sb E E') (hF : sb8 F F') (hb : sb b b') {r : List Nat} (hr : ∀ s ∈ r, okS s) : sb (bh E F b r) (bh E' F' b' r) := by
  rw [bh_eq, bh_eq]
  refine sb_mono (frst_mono hE hF r hr) ?_
  by_cases hv : van E r = true
  · rw [if_pos hv, if_pos (van_mono hE (fun s hs => okS_lt (hr s hs)) hv)]; exact hb
  · rw [if_neg hv]; exact sb_zero _
theorem mW_sweep {q : gP} (hq : okP q) (E : Int32) (F W : Nat → Int32) : 256 - pc8 (foldN (mI E F q) q.2.length W) 8 ≤ 256 - pc8 W 8 ∧ (chN (mD E F q) (mI E F q) q.2.length W = true → 256 - pc8 (foldN (mI E F q) q.2.length W) 8 < 256 - pc8 W 8) ∧ (chN (mD E F q) (mI E F q) q.2.length W = false → foldN (mI E F q) q.2.length W = W ∧ ∀ i, i < q.2.length → mD E F q i W = false) := by
  have h := sweep (mD E F q) (mI E F q) (fun _ => True) (fun V => 256 - pc8 V 8) q.2.length (fun _ _ _ _ => trivial)
    (fun p v _ _ => by have := pc8_mono 8 (mI_up E F q p v); show 256 - _ ≤ 256 - _; omega)
    (fun p v hp _ hd => by
      have h1 := mI_lt (okS_lt (okP_sy hq hp)) hd
      have h2 := pc8_le (mI E F q p v) 8
      show 256 - _ < 256 - _
      omega)
    (fun p v _ _ hd => mI_same hd) W trivial q.2.length (Nat.le_refl _)
  exact ⟨h.2.1, h.2.2.1, h.2.2.2⟩
theorem mW_up (E : Int32) (F : Nat → Int32) (q : gP) (W : Nat → Int32) : ∀ j, sb8 W (foldN (mI E F q) j W)
  | 0 => sb8_rfl _
  | j + 1 => sb8_trans (mW_up E F q W j) (mI_up _ _ _ _ _)
theorem mW_low {q : gP} (hq : okP q) {E E' : Int32} {F F' W W' : Nat → Int32} (hE : sb E E') (hF : sb8 F F') (h : sb8 W W') (hc : ∀ i, i < q.2.length → ¬ sy q.2 i < 10 → sb (bh E' F' (W' q.1) (q.2.drop (i + 1))) (W' (sy q.2 i - 10))) : ∀ j, j ≤ q.2.length → sb8 (foldN (mI E F q) j W) W'
  | 0, _ => h
  | j + 1, hj => by
    have ih := mW_low hq hE hF h hc j (by omega)
    simp only [foldN]
    generalize foldN (mI E F q) j W = V at *
    unfold mI
    split
    · exact ih
    · rename_i h10
      have h18 := okS_lt (okP_sy hq (show j < q.2.length by omega))
      refine sb8_upd_low ih (by omega) (sb_trans (bh_mono3 hE hF (ih _ hq.1) (fun s hs => hq.2.2 s (List.mem_of_mem_drop hs))) (hc j (by omega) h10))
def mm (v : m3) : Nat := (32 - pcI v.1) + ((256 - pc8 v.2.1 8) + (256 - pc8 v.2.2 8))
def cl3 (G : List gP) (v : m3) : Prop := clE G v.1 ∧ clF G v.1 v.2.1 ∧ clW G v.1 v.2.1 v.2.2
theorem stF_le {G : List gP} {E : Int32} {p : Nat} (F : Nat → Int32) : 256 - pc8 (stF G E p F) 8 ≤ 256 - pc8 F 8 := by
  have := pc8_mono 8 (sb8_upd F (gp G p).1 (frst E F (gp G p).2))
  unfold stF; omega
theorem stF_lt {G : List gP} (hG : okG G) {E : Int32} {p : Nat} (hp : p < G.length) {F : Nat → Int32} (hd : dF G E p F = true) : 256 - pc8 (stF G E p F) 8 < 256 - pc8 F 8 := by
  have hne : F (gp G p).1 ||| frst E F (gp G p).2 ≠ F (gp G p).1 := by simpa [dF] using hd
  have h1 := pc8_lt (f := F) (g := stF G E p F) 8 (gp G p).1 (sb8_upd F _ _) (okG_gp hG hp).1 (by unfold stF; rw [pk_us]; exact fun e => hne e.symm)
  have h2 := pc8_le (stF G E p F) 8
  omega
theorem stF_same {G : List gP} {E : Int32} {p : Nat} {F : Nat → Int32} (hd : dF G E p F = false) : stF G E p F = F := by
  have he : F (gp G p).1 ||| frst E F (gp G p).2 = F (gp G p).1 := by simpa [dF] using hd
  unfold stF; rw [he]; exact upd_same _ _
theorem stE_same {G : List gP} (hG : okG G) {p : Nat} (hp : p < G.length) {E : Int32} (hd : (!(tb E (gp G p).1) && van E (gp G p).2) = false) : stE G p E = E := by
  have h8 := (okG_gp hG hp).1
  unfold stE
  split
  · rename_i hv
    rw [hv] at hd
    simp at hd
    exact or_of_sb ((sb_bitI_iff (by omega)).mpr hd)
  · rfl
theorem stE_lt {G : List gP} (hG : okG G) {p : Nat} (hp : p < G.length) {E : Int32} (hd : (!(tb E (gp G p).1) && van E (gp G p).2) = true) : 32 - pcI (stE G p E) < 32 - pcI E := by
  have h8 := (okG_gp hG hp).1
  simp only [Bool.and_eq_true, Bool.not_eq_true'] at hd
  have hne : E ≠ stE G p E := by
    intro e
    unfold stE at e
    rw [if_pos hd.2] at e
    have : sb (bitI (gp G p).1) E := by rw [e]; exact sb_or_r _ _
    rw [sb_bitI_iff (by omega), hd.1] at this
    cases this
  have := pcI_lt (stE_up G p E) hne
  have := pcI_le (stE G p E)
  omega
theorem m_sweep {G : List gP} (hG : okG G) {Es : Int32} {Fs Ws : Nat → Int32} (hS : SetsOK G Es Fs Ws) (v : m3) (hv : sb v.1 Es ∧ sb8 v.2.1 Fs ∧ sb8 v.2.2 Ws ∧ sb 256 (v.2.2 0)) : (sb (foldN (stM G) G.length v).1 Es ∧ sb8 (foldN (stM G) G.length v).2.1 Fs ∧ sb8 (foldN (stM G) G.length v).2.2 Ws ∧ sb 256 ((foldN (stM G) G.length v).2.2 0)) ∧ (chN (dM G) (stM G) G.length v = true → mm (foldN (stM G) G.length v) < mm v) ∧ (chN (dM G) (stM G) G.length v = false → foldN (stM G) G.length v = v ∧ cl3 G v) := by
  obtain ⟨c1, c2, c3, c4, c5, c6⟩ := hS
  have h := sweep (dM G) (stM G) (fun v => sb v.1 Es ∧ sb8 v.2.1 Fs ∧ sb8 v.2.2 Ws ∧ sb 256 (v.2.2 0)) mm G.length ?_ ?_ ?_ ?_ v hv G.length (Nat.le_refl _)
  · refine ⟨h.1, h.2.2.1, fun hc => ?_⟩
    obtain ⟨e1, e2⟩ := h.2.2.2 hc
    refine ⟨e1, ?_, ?_, hv.2.2.2, ?_⟩
    · intro p hp hvan
      have h3 := e2 p hp
      simp only [dM, Bool.or_eq_false_iff] at h3
      have h4 := h3.1
      rw [hvan] at h4
      simp at h4
      exact (sb_bitI_iff (by have := (okG_gp hG hp).1; omega)).mpr h4
    · intro p hp
      have h3 := e2 p hp
      simp only [dM, Bool.or_eq_false_iff] at h3
      have hE : mE G p v = v.1 := stE_same hG hp h3.1
      have h4 := h3.2.1
      rw [hE] at h4
      have he : v.2.1 (gp G p).1 ||| frst v.1 v.2.1 (gp G p).2 = v.2.1 (gp G p).1 := by simpa [dF] using h4
      have := sb_or_r (v.2.1 (gp G p).1) (frst v.1 v.2.1 (gp G p).2)
      rw [he] at this
      exact this
    · intro p hp i hi h10
      have h3 := e2 p hp
      simp only [dM, Bool.or_eq_false_iff] at h3
      have hE : mE G p v = v.1 := stE_same hG hp h3.1
      have hF : mF G p v = v.2.1 := by
        unfold mF
        exact stF_same h3.2.1 |>.trans rfl
      have h4 := h3.2.2
      rw [hF, hE] at h4
      have h5 := ((mW_sweep (okG_gp hG hp) v.1 v.2.1 v.2.2).2.2 h4).2 i hi
      have he : v.2.2 (sy (gp G p).2 i - 10) ||| bh v.1 v.2.1 (v.2.2 (gp G p).1) ((gp G p).2.drop (i + 1)) = v.2.2 (sy (gp G p).2 i - 10) := by simp [mD, h10] at h5; exact h5
      have := sb_or_r (v.2.2 (sy (gp G p).2 i - 10)) (bh v.1 v.2.1 (v.2.2 (gp G p).1) ((gp G p).2.drop (i + 1)))
      rw [he] at this
      exact this
  · rintro p ⟨E, F, W⟩ hp ⟨h1, h2, h3, h4⟩
    have hq := okG_gp hG hp
    have hE : sb (stE G p E) Es := by
      unfold stE
      split
      · rename_i hvan
        exact sb_or h1 (c1 p hp (van_mono h1 (okP18 hq) hvan))
      · exact h1
    have hF : sb8 (stF G (stE G p E) p F) Fs := sb8_upd_low h2 hq.1 (sb_trans (frst_mono hE h2 _ hq.2.2) (c2 p hp))
    exact ⟨hE, hF, mW_low hq hE hF h3 (fun i hi h10 => c3.2 p hp i hi h10) _ (Nat.le_refl _), sb_trans h4 (mW_up _ _ _ _ _ 0 (by decide))⟩
  · rintro p ⟨E, F, W⟩ hp -
    have a := pcI_mono (stE_up G p E)
    have b := stF_le (G := G) (E := stE G p E) (p := p) F
    have c := (mW_sweep (okG_gp hG hp) (stE G p E) (stF G (stE G p E) p F) W).1
    simp only [mm, stM, mE, mF]
    omega
  · rintro p ⟨E, F, W⟩ hp - hd
    have a := pcI_mono (stE_up G p E)
    have b := stF_le (G := G) (E := stE G p E) (p := p) F
    have c := mW_sweep (okG_gp hG hp) (stE G p E) (stF G (stE G p E) p F) W
    simp only [dM, mE, mF, Bool.or_eq_true] at hd
    simp only [mm, stM, mE, mF]
    rcases hd with hd | hd | hd
    · have := stE_lt hG hp hd
      have := c.1
      omega
    · have := stF_lt hG hp hd
      have := c.1
      omega
    · have := c.2.1 hd
      omega
  · rintro p ⟨E, F, W⟩ hp - hd
    simp only [dM, mE, mF, Bool.or_eq_false_iff] at hd
    have e1 : stE G p E = E := stE_same hG hp hd.1
    rw [e1] at hd
    have e2 : stF G E p F = F := stF_same hd.2.1
    rw [e2] at hd
    have e3 := ((mW_sweep (okG_gp hG hp) E F W).2.2 hd.2.2).1
    simp only [stM, mE, mF, e1, e2, e3]
theorem m_setsLoop {rules : Int32} {lefts sizes rights : Nat → Int32} {G : List gP} (h : RM rules lefts sizes rights G) (hG : okG G) {N : Nat} (hN : 2000 < N) {Es : Int32} {Fs Ws : Nat → Int32} (hS : SetsOK G Es Fs Ws) (F0 W0 : Nat → Int32) (hF0 : ∀ n, n < 8 → F0 n = 0) (h0 : W0 0 = 256) (hW0 : ∀ n, 0 < n → n < 8 → W0 n = 0) (k : Int32 → (Nat → Int32) → (Nat → Int32) → Option (Int32 × Int32 × (Nat → Int32) × (Nat → Int32) × (Nat → Int32) × (Nat → Int32) × (Nat → Int32) × Int32)) : ∃ F W, itr4 (bX12_works_58 N rules lefts sizes rights k) N 1 0 F0 W0 = k Es F W ∧ (∀ n, n < 8 → F n = Fs n) ∧ ∀ n, n < 8 → W n = Ws n := by
  have hr := itr4_inv (B := bX12_works_58 N rules lefts sizes rights k) (fun c E F W => (c = 1 ∨ (c = 0 ∧ cl3 G (E, F, W))) ∧ sb E Es ∧ sb8 F Fs ∧ sb8 W Ws ∧ sb 256 (W 0)) (fun c E F W => if c = 0 then 0 else mm (E, F, W) + 1) (fun o => ∃ E F W, o = k E F W ∧ cl3 G (E, F, W) ∧ sb E Es ∧ sb8 F Fs ∧ sb8 W Ws) ?_ N 1 0 F0 W0 ⟨Or.inl rfl, sb_zero _, fun n hn => by rw [hF0 n hn]; exact sb_zero _, fun n hn => by
      by_cases e : n = 0
      · subst e; rw [h0]; exact hS.2.2.1.1
      · rw [hW0 n (by omega) hn]; exact sb_zero _, by rw [h0]; exact sb_rfl _⟩ (by rw [if_neg (by decide)]; unfold mm; omega)
  · obtain ⟨E, F, W, e, ⟨d1, d2, d3⟩, l1, l2, l3⟩ := hr
    obtain ⟨c1, c2, c3, c4, c5, c6⟩ := hS
    have eE : E = Es := sb_anti l1 (c4 _ d1)
    subst eE
    have eF : ∀ n, n < 8 → F n = Fs n := fun n hn => sb_anti (l2 n hn) (c5 _ d2 n hn)
    have d3' : clW G E Fs W := ⟨d3.1, fun p hp i hi h10 => by
      rw [← bh_congr eF _ _ (fun s hs => (okG_gp hG hp).2.2 s (List.mem_of_mem_drop hs))]; exact d3.2 p hp i hi h10⟩
    exact ⟨F, W, e, eF, fun n hn => sb_anti (l3 n hn) (c6 _ d3' n hn)⟩
  · rintro c E F W ⟨hc, hl⟩
    rcases hc with rfl | ⟨rfl, hcl⟩
    · have hsw := m_sweep hG hS (E, F, W) hl
      refine Or.inl ⟨b01 (chN (dM G) (stM G) G.length (E, F, W)), (foldN (stM G) G.length (E, F, W)).1, (foldN (stM G) G.length (E, F, W)).2.1, (foldN (stM G) G.length (E, F, W)).2.2, ⟨?_, hsw.1⟩, ?_, ?_⟩
      · cases hch : chN (dM G) (stM G) G.length (E, F, W) with
        | true => exact Or.inl rfl
        | false =>
          have := hsw.2.2 hch
          refine Or.inr ⟨rfl, ?_⟩
          rw [this.1]; exact this.2
      · cases hch : chN (dM G) (stM G) G.length (E, F, W) with
        | true =>
          have := hsw.2.1 hch
          rw [if_neg (by decide), if_neg (by decide)]
          show mm (foldN (stM G) G.length (E, F, W)) + 1 < _
          omega
        | false => rw [if_pos (by rfl), if_neg (by decide)]; omega
      · intro rc
        simp only [bX12_works_58]
        rw [if_neg (by decide)]
        have hg := m_grows h hG (show 30 < N by omega) (E, F, W)
        simp only at hg
        rw [hg]
        rfl
    · refine Or.inr ⟨k E F W, ⟨E, F, W, rfl, hcl, hl.1, hl.2.1, hl.2.2.1⟩, fun rc => ?_⟩
      simp only [bX12_works_58]
      rw [if_pos trivial]
