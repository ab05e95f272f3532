/-! A SWEEP over the productions, with what it changed; first sets -/
def chN {V : Type} (d : Nat → V → Bool) (f : Nat → V → V) : Nat → V → Bool
  | 0, _ => false
  | n + 1, v => chN d f n v || d n (foldN f n v)
theorem sweep {V : Type} (d : Nat → V → Bool) (f : Nat → V → V) (I : V → Prop) (m : V → Nat) (n : Nat) (hI : ∀ p v, p < n → I v → I (f p v)) (hm : ∀ p v, p < n → I v → m (f p v) ≤ m v) (hs : ∀ p v, p < n → I v → d p v = true → m (f p v) < m v) (hd : ∀ p v, p < n → I v → d p v = false → f p v = v) (v : V) (hv : I v) : ∀ k, k ≤ n → I (foldN f k v) ∧ m (foldN f k v) ≤ m v ∧ (chN d f k v = true → m (foldN f k v) < m v) ∧ (chN d f k v = false → foldN f k v = v ∧ ∀ p, p < k → d p v = false)
  | 0, _ => ⟨hv, Nat.le_refl _, (fun h => by simp [chN] at h), fun _ => ⟨rfl, fun p hp => by omega⟩⟩
  | k + 1, hk => by
    obtain ⟨i1, i2, i3, i4⟩ := sweep d f I m n hI hm hs hd v hv k (by omega)
    have j1 := hI k _ (by omega) i1
    have j2 := hm k _ (by omega) i1
    refine ⟨j1, by simp only [foldN]; omega, fun h => ?_, fun h => ?_⟩
    · simp only [chN, Bool.or_eq_true] at h
      simp only [foldN]
      rcases h with h | h
      · have := i3 h; omega
      · have := hs k _ (by omega) i1 h; omega
    · simp only [chN, Bool.or_eq_false_iff] at h
      obtain ⟨e1, e2⟩ := i4 h.1
      have e3 := h.2
      rw [e1] at e3
      refine ⟨by simp only [foldN]; rw [e1]; exact hd k v (by omega) hv e3, fun p hp => ?_⟩
      by_cases e : p = k
      · subst e; exact e3
      · exact e2 p (by omega)
-- pointwise order of eight sets
def sb8 (F F' : Nat → Int32) : Prop := ∀ n, n < 8 → sb (F n) (F' n)
theorem sb8_rfl (F : Nat → Int32) : sb8 F F := fun n _ => sb_rfl _
theorem sb8_trans {F F' F'' : Nat → Int32} (h1 : sb8 F F') (h2 : sb8 F' F'') : sb8 F F'' := fun n hn => sb_trans (h1 n hn) (h2 n hn)
theorem sb8_upd (F : Nat → Int32) (l : Nat) (x : Int32) : sb8 F (upd F l (F l ||| x)) := by
  intro n _
  by_cases e : n = l
  · subst e; rw [pk_us]; exact sb_or_l _ _
  · rw [pk_un e]; exact sb_rfl _
theorem sb8_upd_low {F F' : Nat → Int32} {l : Nat} {x : Int32} (h : sb8 F F') (hl : l < 8) (hx : sb x (F' l)) : sb8 (upd F l (F l ||| x)) F' := by
  intro n hn
  by_cases e : n = l
  · subst e; rw [pk_us]; exact sb_or (h n hn) hx
  · rw [pk_un e]; exact h n hn
theorem upd_same (F : Nat → Int32) (l : Nat) : upd F l (F l) = F := by
  funext n
  by_cases e : n = l
  · subst e; exact pk_us
  · exact pk_un e
theorem fo_mono {F F' : Nat → Int32} (h : sb8 F F') {s : Nat} (hs : okS s) : sb (fo F s) (fo F' s) := by
  unfold fo
  by_cases e : s < 10
  · rw [if_pos e, if_pos e]; exact sb_rfl _
  · rw [if_neg e, if_neg e]; exact h _ (by have := okS_lt hs; omega)
theorem frst_mono {E E' : Int32} {F F' : Nat → Int32} (hE : sb E E') (hF : sb8 F F') : ∀ (w : List Nat), (∀ s ∈ w, okS s) → sb (frst E F w) (frst E' F' w)
  | [], _ => sb_rfl _
  | s :: r, hw => by
    have ih := frst_mono hE hF r (fun x hx => hw x (List.mem_cons_of_mem _ hx))
    have hs := hw s List.mem_cons_self
    simp only [frst]
    refine sb_mono (fo_mono hF hs) ?_
    by_cases hb : nb E s = true
    · rw [if_pos hb, if_pos (nb_mono hE (okS_lt hs) hb)]; exact ih
    · rw [if_neg hb]; exact sb_zero _
def stF (G : List gP) (E : Int32) (p : Nat) (F : Nat → Int32) : Nat → Int32 := upd F (gp G p).1 (F (gp G p).1 ||| frst E F (gp G p).2)
def dF (G : List gP) (E : Int32) (p : Nat) (F : Nat → Int32) : Bool := !(decide (F (gp G p).1 ||| frst E F (gp G p).2 = F (gp G p).1))
def clF (G : List gP) (E : Int32) (F : Nat → Int32) : Prop := ∀ p, p < G.length → sb (frst E F (gp G p).2) (F (gp G p).1)
theorem c_firstFold {codes : Nat → Int32} {count : Int32} {G : List gP} (h : RC codes count G) (hG : okG G) {N : Nat} (hN : 30 < N) (E : Int32) (F : Nat → Int32) (k : Int32 → (Nat → Int32) → Option (Nat → Int32)) : itr3 (bX7_computeFirst_20 N E codes count k) N 0 0 F = k (b01 (chN (dF G E) (stF G E) G.length F)) (foldN (stF G E) G.length F) := by
  have hl := hG.1
  have hs := itr3_seq (B := bX7_computeFirst_20 N E codes count k) (fun i => b01 (chN (dF G E) (stF G E) i F)) (fun i => nI i) (fun i => foldN (stF G E) i F) G.length N (by omega) ?_ (r := k (b01 (chN (dF G E) (stF G E) G.length F)) (foldN (stF G E) G.length F)) ?_
  · have z0 : b01 (chN (dF G E) (stF G E) 0 F) = 0 := rfl
    have z1 : nI 0 = 0 := rfl
    have z2 : foldN (stF G E) 0 F = F := rfl
    simp only [z0, z1, z2] at hs
    exact hs
  · intro i hi rc
    have hq := okG_gp hG hi
    have h8 := hq.1
    simp only [bX7_computeFirst_20]
    rw [h.1, if_neg (nI_ge hi (by omega)), ag_ok (by omega)]
    simp only [obs, h.2 i hi, c_leftOf hq, ag_ok h8, c_firstFrom0 _ _ hq (show 5 < N by omega), as_ok h8, jn_, lt_]
    generalize hF1 : foldN (stF G E) i F = F1
    have e1 : foldN (stF G E) (i + 1) F = upd F1 (gp G i).1 (F1 (gp G i).1 ||| frst E F1 (gp G i).2) := by simp only [foldN, hF1, stF]
    have e2 : chN (dF G E) (stF G E) (i + 1) F = (chN (dF G E) (stF G E) i F || dF G E i F1) := by simp only [chN, hF1]
    rw [e1, e2, nI_1]
    cases hc : chN (dF G E) (stF G E) i F with
    | true =>
      rw [if_neg (by decide), Bool.true_or]; rfl
    | false =>
      rw [if_pos (by rfl), pk_us, Bool.false_or]
      by_cases e : F1 (gp G i).1 ||| frst E F1 (gp G i).2 = F1 (gp G i).1
      · rw [if_pos e]; simp [dF, e, b01]
      · rw [if_neg e]; simp [dF, e, b01]
  · intro rc
    unfold bX7_computeFirst_20
    rw [h.1, if_pos (Int32.le_refl _)]
theorem c_computeFirst {codes : Nat → Int32} {count : Int32} {G : List gP} (h : RC codes count G) (hG : okG G) {N : Nat} (hN : 2000 < N) (E : Int32) (F0 : Nat → Int32) (hF0 : ∀ n, n < 8 → F0 n = 0) : ∃ F, fX7_computeFirst N E F0 codes count = some F ∧ clF G E F ∧ ∀ F', clF G E F' → sb8 F F' := by
  unfold fX7_computeFirst jn_
  have hsw := fun v hv => sweep (dF G E) (stF G E) (fun F => ∀ F', clF G E F' → sb8 F F') (fun F => 256 - pc8 F 8) G.length
    (fun p v hp hv F' hF' => sb8_upd_low (hv F' hF') (okG_gp hG hp).1 (sb_trans (frst_mono (sb_rfl E) (hv F' hF') _ (okG_gp hG hp).2.2) (hF' p hp)))
    (fun p v hp hv => by have := pc8_mono 8 (sb8_upd v (gp G p).1 (frst E v (gp G p).2)); show 256 - _ ≤ 256 - _; unfold stF; omega)
    (fun p v hp hv hd => by
      have hne : v (gp G p).1 ||| frst E v (gp G p).2 ≠ v (gp G p).1 := by simpa [dF] using hd
      have h1 := pc8_lt (f := v) (g := stF G E p v) 8 (gp G p).1 (sb8_upd v _ _) (okG_gp hG hp).1 (by unfold stF; rw [pk_us]; exact fun e => hne e.symm)
      have h2 := pc8_le (stF G E p v) 8
      show 256 - _ < 256 - _
      omega)
    (fun p v hp hv hd => by
      have he : v (gp G p).1 ||| frst E v (gp G p).2 = v (gp G p).1 := by simpa [dF] using hd
      unfold stF; rw [he]; exact upd_same _ _) v hv G.length (Nat.le_refl _)
  have hr := rounds3 (B := bX7_computeFirst_4 N E codes count (fun v => some v)) (k := fun v => some v) (fun F => ∀ F', clF G E F' → sb8 F F') (fun F => clF G E F) (fun F => 256 - pc8 F 8) (fun F => foldN (stF G E) G.length F) (fun F => chN (dF G E) (stF G E) G.length F) ?_ ?_ (fun v hv => (hsw v hv).1) (fun v hv hc => (hsw v hv).2.2.1 hc) ?_ N F0 (fun F' _ n hn => by rw [hF0 n hn]; exact sb_zero _) (by show 256 - _ ≤ 900; omega) hN
  · obtain ⟨F, h1, h2, h3⟩ := hr
    exact ⟨F, h3, h2, h1⟩
  · intro rc j v hj
    unfold bX7_computeFirst_4
    rw [if_neg (by show ¬ (nI 1000) ≤ _; exact nI_ge hj (by omega)), if_pos rfl]
  · intro rc j v hj hv
    unfold bX7_computeFirst_4
    rw [if_neg (by show ¬ (nI 1000) ≤ _; exact nI_ge hj (by omega)), if_neg (by decide)]
    simp only [jn2]
    rw [c_firstFold h hG (by omega)]
    show rc _ (nI j + 1) _ = _
    rw [nI_1]
  · intro v hv hc
    obtain ⟨e1, e2⟩ := (hsw v hv).2.2.2 hc
    show clF G E _
    rw [e1]
    intro p hp
    have he : v (gp G p).1 ||| frst E v (gp G p).2 = v (gp G p).1 := by simpa [dF] using e2 p hp
    rw [← he]
    have := sb_or_r (v (gp G p).1) (frst E v (gp G p).2)
    rw [he] at this ⊢
    exact this
