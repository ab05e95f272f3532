/-! LOOPS IN ROUNDS, and the class's sets -/
theorem rounds3 {V ρ : Type} {B : (Int32 → Int32 → V → Option ρ) → Int32 → Int32 → V → Option ρ} {k : V → Option ρ} (I Post : V → Prop) (m : V → Nat) (st : V → V) (ch : V → Bool)
    (h0 : ∀ rc j v, j < 1000 → B rc 0 (nI j) v = k v) (h1 : ∀ rc j v, j < 1000 → I v → B rc 1 (nI j) v = rc (b01 (ch v)) (nI (j + 1)) (st v))
    (hI : ∀ v, I v → I (st v)) (hm : ∀ v, I v → ch v = true → m (st v) < m v) (hp : ∀ v, I v → ch v = false → Post (st v))
    (N : Nat) (v0 : V) (hI0 : I v0) (hm0 : m v0 ≤ 900) (hN : 2000 < N) : ∃ v, I v ∧ Post v ∧ itr3 B N 1 0 v0 = k v := by
  refine itr3_inv (fun c r v => ∃ j, r = nI j ∧ ((c = 1 ∧ I v ∧ j + m v ≤ 900) ∨ (c = 0 ∧ I v ∧ Post v ∧ j ≤ 901))) (fun _ r _ => 2000 - r.toNatClampNeg) (fun o => ∃ v, I v ∧ Post v ∧ o = k v) ?_ N 1 0 v0 ⟨0, rfl, Or.inl ⟨rfl, hI0, by omega⟩⟩ (by show 2000 - _ < N; omega)
  rintro c r v ⟨j, rfl, ⟨rfl, hv, hj⟩ | ⟨rfl, hv, hpv, hj⟩⟩
  · refine Or.inl ⟨b01 (ch v), nI (j + 1), st v, ⟨j + 1, rfl, ?_⟩, ?_, fun rc => h1 rc j v (by omega) hv⟩
    · cases hc : ch v with
      | true => exact Or.inl ⟨rfl, hI v hv, by have := hm v hv hc; omega⟩
      | false => exact Or.inr ⟨rfl, hI v hv, hp v hv hc, by omega⟩
    · show 2000 - _ < 2000 - _
      rw [nI_clamp (by omega), nI_clamp (by omega)]; omega
  · exact Or.inr ⟨k v, ⟨v, hv, hpv, rfl⟩, fun rc => h0 rc j v (by omega)⟩
-- nullable
def stE (G : List gP) (p : Nat) (E : Int32) : Int32 := if van E (gp G p).2 = true then E ||| bitI (gp G p).1 else E
def clE (G : List gP) (E : Int32) : Prop := ∀ p, p < G.length → van E (gp G p).2 = true → sb (bitI (gp G p).1) E
theorem nb_mono {E E' : Int32} (h : sb E E') {s : Nat} (hs : s < 18) (hb : nb E s = true) : nb E' s = true := by
  unfold nb at *
  simp only [Bool.and_eq_true] at *
  exact ⟨hb.1, tb_mono h (by omega) hb.2⟩
theorem van_mono {E E' : Int32} (h : sb E E') {w : List Nat} (hw : ∀ s ∈ w, s < 18) (hb : van E w = true) : van E' w = true := by
  unfold van at *
  rw [List.all_eq_true] at *
  exact fun s hs => nb_mono h (hw s hs) (hb s hs)
theorem okP18 {q : gP} (h : okP q) : ∀ s ∈ q.2, s < 18 := fun s hs => okS_lt (h.2.2 s hs)
theorem stE_up (G : List gP) (p : Nat) (E : Int32) : sb E (stE G p E) := by
  unfold stE
  split
  · exact sb_or_l _ _
  · exact sb_rfl _
theorem foldE_up (G : List gP) (E : Int32) : ∀ n, sb E (foldN (stE G) n E)
  | 0 => sb_rfl _
  | n + 1 => sb_trans (foldE_up G E n) (stE_up G n _)
theorem foldE_fix {G : List gP} {E : Int32} : ∀ n, foldN (stE G) n E = E → ∀ p, p < n → stE G p E = E
  | 0, _, p, hp => by omega
  | n + 1, h, p, hp => by
    have h1 : foldN (stE G) n E = E := sb_anti (by have := stE_up G n (foldN (stE G) n E); simp only [foldN] at h; rw [h] at this; exact this) (foldE_up G E n)
    by_cases e : p = n
    · subst e
      simp only [foldN] at h
      rw [h1] at h; exact h
    · exact foldE_fix n h1 p (by omega)
theorem foldE_low {G : List gP} (hG : okG G) {E E' : Int32} (hc : clE G E') (h : sb E E') : ∀ n, n ≤ G.length → sb (foldN (stE G) n E) E'
  | 0, _ => h
  | n + 1, hn => by
    have ih := foldE_low hG hc h n (by omega)
    simp only [foldN]
    unfold stE
    split
    · rename_i hv
      exact sb_or ih (hc n (by omega) (van_mono ih (okP18 (okG_gp hG (by omega))) hv))
    · exact ih
theorem c_nullFold {codes : Nat → Int32} {count : Int32} {G : List gP} (h : RC codes count G) (hG : okG G) {N : Nat} (hN : 30 < N) (E : Int32) (k : Int32 → Option Int32) : itr2 (bX7_computeNullable_24 N codes count k) N 0 E = k (foldN (stE G) G.length E) := by
  have hl := hG.1
  refine itr2_seq (fun i => nI i) (fun i => foldN (stE G) i E) G.length N (by omega) ?_ ?_
  · intro i hi rc
    have hq := okG_gp hG hi
    simp only [bX7_computeNullable_24]
    rw [h.1, if_neg (nI_ge hi (by omega)), ag_ok (by omega)]
    simp only [obs, h.2 i hi, c_vanishes0 _ hq (show 5 < N by omega), c_leftOf hq, jn_, lt_, nI_1]
    have e1 : foldN (stE G) (i + 1) E = stE G i (foldN (stE G) i E) := rfl
    rw [e1]
    generalize foldN (stE G) i E = E1
    unfold stE
    cases hv : van E1 (gp G i).2 <;> rfl
  · intro rc
    unfold bX7_computeNullable_24
    rw [h.1, if_pos (Int32.le_refl _)]
theorem c_computeNullable {codes : Nat → Int32} {count : Int32} {G : List gP} (h : RC codes count G) (hG : okG G) {N : Nat} (hN : 2000 < N) : ∃ E, fX7_computeNullable N 0 codes count = some E ∧ clE G E ∧ ∀ E', clE G E' → sb E E' := by
  unfold fX7_computeNullable jn_
  have hr := rounds3 (B := bX7_computeNullable_4 N codes count (fun v => some v)) (k := fun v => some v) (fun E => ∀ E', clE G E' → sb E E') (fun E => clE G E) (fun E => 32 - pcI E) (fun E => foldN (stE G) G.length E) (fun E => !(decide (foldN (stE G) G.length E = E))) ?_ ?_ ?_ ?_ ?_ N 0 (fun E' _ => sb_zero E') (by omega) hN
  · obtain ⟨E, h1, h2, h3⟩ := hr
    exact ⟨E, h3, h2, h1⟩
  · intro rc j v hj
    unfold bX7_computeNullable_4
    rw [if_neg (by show ¬ (nI 1000) ≤ _; exact nI_ge hj (by omega)), if_pos rfl]
  · intro rc j v hj hv
    unfold bX7_computeNullable_4
    rw [if_neg (by show ¬ (nI 1000) ≤ _; exact nI_ge hj (by omega)), if_neg (by decide)]
    simp only [jn_]
    rw [c_nullFold h hG (by omega)]
    by_cases e : foldN (stE G) G.length v = v
    · rw [if_pos e]
      show rc 0 (nI j + 1) _ = _
      rw [nI_1, e]; simp [b01]
    · rw [if_neg e]
      show rc 1 (nI j + 1) _ = _
      rw [nI_1]; simp [b01, e]
  · intro v hv E' hE'
    exact foldE_low hG hE' (hv E' hE') _ (Nat.le_refl _)
  · intro v hv hc
    have hne : foldN (stE G) G.length v ≠ v := by simpa using hc
    have := pcI_lt (foldE_up G v G.length) (fun e => hne e.symm)
    have := pcI_le (foldN (stE G) G.length v)
    show 32 - _ < 32 - _
    omega
  · intro v hv hc
    have he : foldN (stE G) G.length v = v := by simpa using hc
    show clE G _
    rw [he]
    intro p hp hvan
    have := foldE_fix G.length he p hp
    unfold stE at this
    rw [if_pos hvan] at this
    rw [← this]
    exact sb_or_r _ _
