/-! FOLLOW SETS: the class's loop, and what its sets are -/
theorem bh_mono {E : Int32} {F : Nat → Int32} {b b' : Int32} (h : sb b b') : ∀ r, sb (bh E F b r) (bh E F b' r)
  | [] => h
  | s :: r => by
    simp only [bh]
    cases nb E s with
    | false => exact sb_rfl _
    | true => exact sb_mono (bh_mono h r) (sb_rfl _)
theorem spN_fold (E : Int32) (F : Nat → Int32) (w : List Nat) (b : Int32) (W : Nat → Int32) : ∀ j, spN E F w b W j = foldN (fun j V => spI E F w b (w.length - (j + 1)) V) j W
  | 0 => rfl
  | j + 1 => by simp only [spN, foldN, spN_fold E F w b W j]
theorem spC_ch (E : Int32) (F : Nat → Int32) (w : List Nat) (b : Int32) (W : Nat → Int32) : ∀ j, spC E F w b W j = chN (fun j V => spD E F w b (w.length - (j + 1)) V) (fun j V => spI E F w b (w.length - (j + 1)) V) j W
  | 0 => rfl
  | j + 1 => by simp only [spC, chN, spC_ch E F w b W j, spN_fold]
theorem spI_up (E : Int32) (F : Nat → Int32) (w : List Nat) (b : Int32) (i : Nat) (W : Nat → Int32) : sb8 W (spI E F w b i W) := by
  unfold spI
  split
  · exact sb8_rfl _
  · exact sb8_upd _ _ _
theorem spI_same {E : Int32} {F : Nat → Int32} {w : List Nat} {b : Int32} {i : Nat} {W : Nat → Int32} (h : spD E F w b i W = false) : spI E F w b i W = W := by
  unfold spI
  split
  · rfl
  · rename_i h10
    simp [spD, h10] at h
    rw [h]; exact upd_same _ _
theorem spI_lt {E : Int32} {F : Nat → Int32} {w : List Nat} {b : Int32} {i : Nat} {W : Nat → Int32} (hs : sy w i < 18) (h : spD E F w b i W = true) : pc8 W 8 < pc8 (spI E F w b i W) 8 := by
  have h10 : ¬ sy w i < 10 := by intro e; simp [spD, e] at h
  have hne : ¬ W (sy w i - 10) ||| bh E F b (w.drop (i + 1)) = W (sy w i - 10) := by simp [spD, h10] at h; exact h
  refine pc8_lt 8 (sy w i - 10) (spI_up E F w b i W) (by omega) ?_
  unfold spI
  rw [if_neg h10, pk_us]
  exact fun e => hne e.symm
def clW (G : List gP) (E : Int32) (F W : Nat → Int32) : Prop := sb 256 (W 0) ∧ ∀ p, p < G.length → ∀ i, i < (gp G p).2.length → ¬ sy (gp G p).2 i < 10 → sb (bh E F (W (gp G p).1) ((gp G p).2.drop (i + 1))) (W (sy (gp G p).2 i - 10))
def stW (G : List gP) (E : Int32) (F : Nat → Int32) (p : Nat) (W : Nat → Int32) : Nat → Int32 := spN E F (gp G p).2 (W (gp G p).1) W (gp G p).2.length
def dW (G : List gP) (E : Int32) (F : Nat → Int32) (p : Nat) (W : Nat → Int32) : Bool := spC E F (gp G p).2 (W (gp G p).1) W (gp G p).2.length
theorem spN_sweep {q : gP} (hq : okP q) (E : Int32) (F : Nat → Int32) (b : Int32) (W : Nat → Int32) : 256 - pc8 (spN E F q.2 b W q.2.length) 8 ≤ 256 - pc8 W 8 ∧ (spC E F q.2 b W q.2.length = true → 256 - pc8 (spN E F q.2 b W q.2.length) 8 < 256 - pc8 W 8) ∧ (spC E F q.2 b W q.2.length = false → spN E F q.2 b W q.2.length = W ∧ ∀ i, i < q.2.length → spD E F q.2 b i W = false) := by
  have h := sweep (fun j V => spD E F q.2 b (q.2.length - (j + 1)) V) (fun j V => spI E F q.2 b (q.2.length - (j + 1)) V) (fun _ => True) (fun V => 256 - pc8 V 8) q.2.length (fun _ _ _ _ => trivial)
    (fun p v _ _ => by have := pc8_mono 8 (spI_up E F q.2 b (q.2.length - (p + 1)) v); show 256 - _ ≤ 256 - _; omega)
    (fun p v hp _ hd => by
      have h1 := spI_lt (okS_lt (okP_sy hq (show q.2.length - (p + 1) < q.2.length by omega))) hd
      have h2 := pc8_le (spI E F q.2 b (q.2.length - (p + 1)) v) 8
      show 256 - _ < 256 - _
      omega)
    (fun p v _ _ hd => spI_same hd) W trivial q.2.length (Nat.le_refl _)
  rw [← spN_fold, ← spC_ch] at h
  refine ⟨h.2.1, h.2.2.1, fun hc => ⟨(h.2.2.2 hc).1, fun i hi => ?_⟩⟩
  have := (h.2.2.2 hc).2 (q.2.length - (i + 1)) (by omega)
  have e : q.2.length - (q.2.length - (i + 1) + 1) = i := by omega
  simp only [e] at this
  exact this
theorem spN_up (E : Int32) (F : Nat → Int32) (w : List Nat) (b : Int32) (W : Nat → Int32) : ∀ j, sb8 W (spN E F w b W j)
  | 0 => sb8_rfl _
  | j + 1 => sb8_trans (spN_up E F w b W j) (spI_up _ _ _ _ _ _)
theorem spN_low {q : gP} (hq : okP q) {E : Int32} {F W W' : Nat → Int32} {b : Int32} (h : sb8 W W') (hc : ∀ i, i < q.2.length → ¬ sy q.2 i < 10 → sb (bh E F b (q.2.drop (i + 1))) (W' (sy q.2 i - 10))) : ∀ j, j ≤ q.2.length → sb8 (spN E F q.2 b W j) W'
  | 0, _ => h
  | j + 1, hj => by
    have ih := spN_low hq h hc j (by omega)
    simp only [spN]
    unfold spI
    split
    · exact ih
    · rename_i h10
      have hi : q.2.length - (j + 1) < q.2.length := by omega
      have := okS_lt (okP_sy hq hi)
      exact sb8_upd_low ih (by omega) (hc _ hi h10)
theorem c_followFold {codes : Nat → Int32} {count : Int32} {G : List gP} (h : RC codes count G) (hG : okG G) {N : Nat} (hN : 30 < N) (E : Int32) (F W : Nat → Int32) (k : Int32 → (Nat → Int32) → Option (Nat → Int32)) : itr3 (bX7_computeFollow_20 N E F codes count k) N 0 0 W = k (b01 (chN (dW G E F) (stW G E F) G.length W)) (foldN (stW G E F) G.length W) := by
  have hl := hG.1
  have hs := itr3_seq (B := bX7_computeFollow_20 N E F codes count k) (fun i => b01 (chN (dW G E F) (stW G E F) i W)) (fun i => nI i) (fun i => foldN (stW G E F) i W) G.length N (by omega) ?_ (r := k (b01 (chN (dW G E F) (stW G E F) G.length W)) (foldN (stW G E F) G.length W)) ?_
  · have z0 : b01 (chN (dW G E F) (stW G E F) 0 W) = 0 := rfl
    have z1 : nI 0 = 0 := rfl
    have z2 : foldN (stW G E F) 0 W = W := rfl
    simp only [z0, z1, z2] at hs
    exact hs
  · intro i hi rc
    have hq := okG_gp hG hi
    simp only [bX7_computeFollow_20]
    rw [h.1, if_neg (nI_ge hi (by omega)), ag_ok (by omega)]
    simp only [obs, h.2 i hi, bd2, c_spread hq E F _ hN, jn_, lt_, nI_1]
    generalize hW1 : foldN (stW G E F) i W = W1
    have e1 : foldN (stW G E F) (i + 1) W = stW G E F i W1 := by simp only [foldN, hW1]
    have e2 : chN (dW G E F) (stW G E F) (i + 1) W = (chN (dW G E F) (stW G E F) i W || dW G E F i W1) := by simp only [chN, hW1]
    rw [e1, e2]
    unfold dW stW
    cases spC E F (gp G i).2 (W1 (gp G i).1) W1 (gp G i).2.length <;> cases chN (fun p W => spC E F (gp G p).2 (W (gp G p).1) W (gp G p).2.length) (fun p W => spN E F (gp G p).2 (W (gp G p).1) W (gp G p).2.length) i W <;> simp [b01]
  · intro rc
    simp only [bX7_computeFollow_20]
    rw [h.1, if_pos (Int32.le_refl _)]
theorem c_computeFollow {codes : Nat → Int32} {count : Int32} {G : List gP} (h : RC codes count G) (hG : okG G) {N : Nat} (hN : 2000 < N) (E : Int32) (F W0 : Nat → Int32) (h0 : W0 0 = 256) (hW0 : ∀ n, 0 < n → n < 8 → W0 n = 0) : ∃ W, fX7_computeFollow N E F W0 codes count = some W ∧ clW G E F W ∧ ∀ W', clW G E F W' → sb8 W W' := by
  simp only [fX7_computeFollow, jn_]
  have hsw := fun v hv => sweep (dW G E F) (stW G E F) (fun W => sb 256 (W 0) ∧ ∀ W', clW G E F W' → sb8 W W') (fun W => 256 - pc8 W 8) G.length
    (fun p v hp hv => ⟨sb_trans hv.1 (spN_up _ _ _ _ _ _ 0 (by decide)), fun W' hW' => spN_low (okG_gp hG hp) (hv.2 W' hW') (fun i hi h10 => sb_trans (bh_mono (hv.2 W' hW' _ (okG_gp hG hp).1) _) (hW'.2 p hp i hi h10)) _ (Nat.le_refl _)⟩)
    (fun p v hp hv => (spN_sweep (okG_gp hG hp) E F _ v).1)
    (fun p v hp hv hd => (spN_sweep (okG_gp hG hp) E F _ v).2.1 hd)
    (fun p v hp hv hd => ((spN_sweep (okG_gp hG hp) E F _ v).2.2 hd).1) v hv G.length (Nat.le_refl _)
  have hr := rounds3 (B := bX7_computeFollow_4 N E F codes count (fun v => some v)) (k := fun v => some v) (fun W => sb 256 (W 0) ∧ ∀ W', clW G E F W' → sb8 W W') (fun W => clW G E F W) (fun W => 256 - pc8 W 8) (fun W => foldN (stW G E F) G.length W) (fun W => chN (dW G E F) (stW G E F) G.length W) ?_ ?_ (fun v hv => (hsw v hv).1) (fun v hv hc => (hsw v hv).2.2.1 hc) ?_ N W0 ⟨by rw [h0]; exact sb_rfl _, fun W' hW' n hn => by
      by_cases e : n = 0
      · subst e; rw [h0]; exact hW'.1
      · rw [hW0 n (by omega) hn]; exact sb_zero _⟩ (by show 256 - _ ≤ 900; omega) hN
  · obtain ⟨W, h1, h2, h3⟩ := hr
    exact ⟨W, h3, h2, h1.2⟩
  · intro rc j v hj
    simp only [bX7_computeFollow_4]
    rw [if_neg (by show ¬ (nI 1000) ≤ _; exact nI_ge hj (by omega)), if_pos trivial]
  · intro rc j v hj hv
    simp only [bX7_computeFollow_4]
    rw [if_neg (by show ¬ (nI 1000) ≤ _; exact nI_ge hj (by omega)), if_neg (by decide)]
    simp only [jn2]
    rw [c_followFold h hG (by omega)]
    simp only [lt_, nI_1]
  · intro v hv hc
    obtain ⟨e1, e2⟩ := (hsw v hv).2.2.2 hc
    show clW G E F _
    rw [e1]
    refine ⟨hv.1, fun p hp i hi h10 => ?_⟩
    have h3 := ((spN_sweep (okG_gp hG hp) E F _ v).2.2 (e2 p hp)).2 i hi
    have he : v (sy (gp G p).2 i - 10) ||| bh E F (v (gp G p).1) ((gp G p).2.drop (i + 1)) = v (sy (gp G p).2 i - 10) := by simp [spD, h10] at h3; exact h3
    have := sb_or_r (v (sy (gp G p).2 i - 10)) (bh E F (v (gp G p).1) ((gp G p).2.drop (i + 1)))
    rw [he] at this
    exact this
def SetsOK (G : List gP) (E : Int32) (F W : Nat → Int32) : Prop := clE G E ∧ clF G E F ∧ clW G E F W ∧ (∀ E', clE G E' → sb E E') ∧ (∀ F', clF G E F' → sb8 F F') ∧ (∀ W', clW G E F W' → sb8 W W')
theorem foldN_upd (f : Nat → Int32) (g : Nat → Int32) : ∀ n j, (foldN (fun i h => upd h i (g i)) n f) j = if j < n then g j else f j
  | 0, j => by simp [foldN]
  | n + 1, j => by
    simp only [foldN]
    by_cases e : j = n
    · subst e; rw [pk_us, if_pos (by omega)]
    · rw [pk_un e, foldN_upd f g n j]
      by_cases h : j < n
      · rw [if_pos h, if_pos (by omega)]
      · rw [if_neg h, if_neg (by omega)]
theorem c_compute {codes : Nat → Int32} {count : Int32} {G : List gP} (h : RC codes count G) (hG : okG G) {N : Nat} (hN : 2000 < N) (e0 : Int32) (f0 w0 : Nat → Int32) : ∃ E F W, fX7_compute N e0 f0 w0 codes count = some (E, F, W) ∧ SetsOK G E F W := by
  simp only [fX7_compute, jn2]
  obtain ⟨E, hE1, hE2, hE3⟩ := c_computeNullable h hG hN
  obtain ⟨F, hF1, hF2, hF3⟩ := c_computeFirst h hG hN E (foldN (fun i h => upd h i 0) 8 f0) (fun n hn => by rw [foldN_upd f0 (fun _ => 0)]; rw [if_pos hn])
  obtain ⟨W, hW1, hW2, hW3⟩ := c_computeFollow h hG hN E F (upd (foldN (fun i h => upd h i 0) 8 w0) 0 256) pk_us (fun n h1 h2 => by rw [pk_un (by omega), foldN_upd w0 (fun _ => 0), if_pos h2])
  refine ⟨E, F, W, ?_, hE2, hF2, hW2, hE3, hF3, hW3⟩
  have hs := itr3_seq (B := bX7_compute_7 fun v1 v2 => (as_ v2 8 0 256).bind fun f3 => (fX7_computeNullable N 0 codes count).bind fun o4 => (fX7_computeFirst N o4 v1 codes count).bind fun o5 => (fX7_computeFollow N o4 o5 f3 codes count).bind fun o6 => some (o4, o5, o6)) (fun i => nI i) (fun i => foldN (fun i h => upd h i 0) i f0) (fun i => foldN (fun i h => upd h i 0) i w0) 8 N (by omega) ?_ (r := some (E, F, W)) ?_
  · exact hs
  · intro i hi rc
    simp only [bX7_compute_7]
    rw [if_neg (by show ¬ (nI 8) ≤ _; exact nI_ge hi (by decide)), as_ok hi]
    simp only [obs, as_ok hi, lt_, nI_1, foldN]
  · intro rc
    simp only [bX7_compute_7]
    rw [if_pos (by exact Int32.le_refl _)]
    have e : as_ (foldN (fun i h => upd h i 0) 8 w0) 8 0 256 = some (upd (foldN (fun i h => upd h i 0) 8 w0) 0 256) := as_ok (i := 0) (by decide)
    rw [e]
    simp only [obs, hE1, hF1, hW1]
theorem bh_congr {E : Int32} {F F' : Nat → Int32} (hF : ∀ n, n < 8 → F n = F' n) (b : Int32) : ∀ r, (∀ s ∈ r, okS s) → bh E F b r = bh E F' b r
  | [], _ => rfl
  | s :: r, hr => by
    have ih := bh_congr (E := E) hF b r (fun x hx => hr x (List.mem_cons_of_mem _ hx))
    have h18 := okS_lt (hr s List.mem_cons_self)
    have e : fo F s = fo F' s := by
      unfold fo
      by_cases h10 : s < 10
      · rw [if_pos h10, if_pos h10]
      · rw [if_neg h10, if_neg h10]; exact hF _ (by omega)
    simp only [bh, ih, e]
theorem SetsOK_uniq {G : List gP} (hG : okG G) {E E2 : Int32} {F W F2 W2 : Nat → Int32} (h : SetsOK G E F W) (h2 : SetsOK G E2 F2 W2) : E = E2 ∧ (∀ n, n < 8 → F n = F2 n) ∧ ∀ n, n < 8 → W n = W2 n := by
  obtain ⟨a1, a2, a3, a4, a5, a6⟩ := h
  obtain ⟨b1, b2, b3, b4, b5, b6⟩ := h2
  have eE : E = E2 := sb_anti (a4 _ b1) (b4 _ a1)
  subst eE
  have eF : ∀ n, n < 8 → F n = F2 n := fun n hn => sb_anti (a5 _ b2 n hn) (b5 _ a2 n hn)
  have hbh : ∀ p, p < G.length → ∀ (b : Int32) (i : Nat), bh E F b ((gp G p).2.drop i) = bh E F2 b ((gp G p).2.drop i) := fun p hp b i => bh_congr eF b _ (fun s hs => (okG_gp hG hp).2.2 s (List.mem_of_mem_drop hs))
  have c1 : clW G E F2 W := ⟨a3.1, fun p hp i hi h10 => by rw [← hbh p hp]; exact a3.2 p hp i hi h10⟩
  have c2 : clW G E F W2 := ⟨b3.1, fun p hp i hi h10 => by rw [hbh p hp]; exact b3.2 p hp i hi h10⟩
  exact ⟨rfl, eF, fun n hn => sb_anti (a6 _ c2 n hn) (b6 _ c1 n hn)⟩
