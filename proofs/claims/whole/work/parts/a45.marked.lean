/-! EXAMPLES: words in which the production is used; the rules, and the class's steps -/
theorem clv_em_iff {E : Int32} {pv : vW} : ∀ (w : List Nat), (∀ s ∈ w, decide ((pwS pv s).1 = some []) = nb E s) → decide ((clv pv w).1 = some []) = van E w
  | [], _ => rfl
  | s :: r, h => by
    have h1 := h s List.mem_cons_self
    have ih := clv_em_iff (E := E) (pv := pv) r (fun x hx => h x (List.mem_cons_of_mem _ hx))
    rw [van_cons, ← h1, ← ih]
    have e : (clv pv (s :: r)).1 = cat (pwS pv s).1 (clv pv r).1 := rfl
    rw [e]
    generalize (pwS pv s).1 = a
    generalize (clv pv r).1 = b
    cases a with
    | none => simp [cat_none_l]
    | some u =>
      cases b with
      | none => simp [cat_none_r]
      | some t =>
        rw [cat_some]
        by_cases hl : (u ++ t).length ≤ 40
        · rw [if_pos hl]; simp
        · rw [if_neg hl]
          have : ¬ (u = [] ∧ t = []) := by rintro ⟨rfl, rfl⟩; simp at hl
          simp only [reduceCtorEq, decide_false, Option.some.injEq]
          by_cases h1 : u = []
          · have h2 : ¬ t = [] := fun q => this ⟨h1, q⟩
            simp [h2]
          · simp [h1]
def evT (pv : vW) (q : gP) (i : Nat) (v : vW) : wW := catW (clv pv (q.2.take i)) (v (8 + (sy q.2 i - 10)))
def evM (pv : vW) (q : gP) (i : Nat) (v : vW) : wW := catW (catW (clv pv (q.2.take i)) (v (sy q.2 i - 10))) (clv pv (q.2.drop (i + 1)))
def gM1 (pv : vW) (q : gP) (i : Nat) (v : vW) : vW := updW v q.1 (minW w0 (v q.1) (evM pv q i v))
def dM1 (pv : vW) (q : gP) (i : Nat) (v : vW) : Bool := decide (ky w0 (evM pv q i v) < ky w0 (v q.1))
def gE (E : Int32) (pv : vW) (q : gP) (i : Nat) (v : vW) : vW := if van E (q.2.drop (i + 1)) = true then updW v (8 + q.1) (minW w0 (v (8 + q.1)) (evT pv q i v)) else v
def dE (E : Int32) (pv : vW) (q : gP) (i : Nat) (v : vW) : Bool := van E (q.2.drop (i + 1)) && decide (ky w0 (evT pv q i v) < ky w0 (v (8 + q.1)))
def evS (E : Int32) (pv : vW) (β : Nat → wW) (q : gP) (i : Nat) (v : vW) : wW := catW (evT pv q i v) (stl E pv β (q.2.drop (i + 1)))
def gM2 (E : Int32) (pv : vW) (β : Nat → wW) (q : gP) (i : Nat) (v : vW) : vW := updW (gE E pv q i v) q.1 (minW w0 (v q.1) (evS E pv β q i v))
def dM2 (E : Int32) (pv : vW) (β : Nat → wW) (q : gP) (i : Nat) (v : vW) : Bool := dE E pv q i v || decide (ky w0 (evS E pv β q i v) < ky w0 (v q.1))
def fMi (E : Int32) (pv : vW) (β : Nat → wW) (q : gP) (i : Nat) (v : vW) : vW := if (!(decide (sy q.2 i < 10))) = true then gM2 E pv β q i (gM1 pv q i v) else v
def dMi (E : Int32) (pv : vW) (β : Nat → wW) (q : gP) (i : Nat) (v : vW) : Bool := !(decide (sy q.2 i < 10)) && (dM1 pv q i v || dM2 E pv β q i (gM1 pv q i v))
def fMk (G : List gP) (E : Int32) (pv : vW) (β : Nat → wW) (p : Nat) : vW → vW := foldN (fMi E pv β (gp G p)) (gp G p).2.length
def dMk (G : List gP) (E : Int32) (pv : vW) (β : Nat → wW) (p : Nat) : vW → Bool := chN (dMi E pv β (gp G p)) (fMi E pv β (gp G p)) (gp G p).2.length
def RK (G : List gP) (E : Int32) (pv : vW) (β : Nat → wW) (b : vW) : RuleS := fun s ev => (s < 16 ∧ ev = fun _ => b s) ∨ ∃ p i, p < G.length ∧ i < (gp G p).2.length ∧ ¬ sy (gp G p).2 i < 10 ∧ ((s = (gp G p).1 ∧ ev = evM pv (gp G p) i) ∨ (∃ j, j < ((gp G p).2.drop (i + 1)).length ∧ van E (((gp G p).2.drop (i + 1)).take j) = true ∧ s = (gp G p).1 ∧ ev = fun v => catW (evT pv (gp G p) i v) (bev pv ((gp G p).2.drop (i + 1)) j β)) ∨ (van E ((gp G p).2.drop (i + 1)) = true ∧ s = 8 + (gp G p).1 ∧ ev = evT pv (gp G p) i))
theorem nice_evT {G : List gP} (hG : okG G) {pv : vW} {p i : Nat} (hp : p < G.length) (hi : i < (gp G p).2.length) (h10 : ¬ sy (gp G p).2 i < 10) : Nice w0 16 (evT pv (gp G p) i) := by
  have := okS_lt (okP_sy (okG_gp hG hp) hi)
  exact nice_cat w0_9 (nice_const _ _ _) (nice_slot _ (by omega))
theorem okR_RK {G : List gP} (hG : okG G) (E : Int32) (pv : vW) (β : Nat → wW) (b : vW) : okR w0 16 (RK G E pv β b) := by
  rintro s ev (⟨hs, rfl⟩ | ⟨p, i, hp, hi, h10, (⟨rfl, rfl⟩ | ⟨j, hj, hv, rfl, rfl⟩ | ⟨hv, rfl, rfl⟩)⟩)
  · exact ⟨hs, nice_const _ _ _⟩
  · have h8 := (okG_gp hG hp).1
    have := okS_lt (okP_sy (okG_gp hG hp) hi)
    exact ⟨by omega, nice_cat w0_9 (nice_cat w0_9 (nice_const _ _ _) (nice_slot _ (by omega))) (nice_const _ _ _)⟩
  · have h8 := (okG_gp hG hp).1
    exact ⟨by omega, nice_cat w0_9 (nice_evT hG hp hi h10) (nice_const _ _ _)⟩
  · have h8 := (okG_gp hG hp).1
    exact ⟨by omega, nice_evT hG hp hi h10⟩
section MK
variable {G : List gP} {E : Int32} {pv : vW} {β : Nat → wW} {b : vW}
theorem gE_at {q : gP} {i : Nat} {v : vW} : gE E pv q i v q.1 = v q.1 := by
  unfold gE
  split
  · rw [updW_n (by omega)]
  · rfl
theorem good_M1 (hG : okG G) {p i : Nat} (hp : p < G.length) (hi : i < (gp G p).2.length) (h10 : ¬ sy (gp G p).2 i < 10) : Good w0 16 (RK G E pv β b) (gM1 pv (gp G p) i) (dM1 pv (gp G p) i) := good_lower (okR_RK hG E pv β b) (ev := evM pv (gp G p) i) (Or.inr ⟨p, i, hp, hi, h10, Or.inl ⟨rfl, rfl⟩⟩)
theorem good_M2 (hG : okG G) {p i : Nat} (hp : p < G.length) (hi : i < (gp G p).2.length) (h10 : ¬ sy (gp G p).2 i < 10) : Good w0 16 (RK G E pv β b) (gM2 E pv β (gp G p) i) (dM2 E pv β (gp G p) i) := by
  have h8 := (okG_gp hG hp).1
  refine ⟨fun v Q hQ hv => ?_, fun v hd => ?_, fun v hd => ?_⟩
  · have q1 : Q (gE E pv (gp G p) i v) := by
      unfold gE
      by_cases hvan : van E ((gp G p).2.drop (i + 1)) = true
      · rw [if_pos hvan]
        exact hQ v v _ _ (Or.inr ⟨p, i, hp, hi, h10, Or.inr (Or.inr ⟨hvan, rfl, rfl⟩)⟩) hv hv
      · rw [if_neg hvan]; exact hv
    have := stl_steps (E := E) (pv := pv) (β := β) (sl := (gp G p).1) (A := evT pv (gp G p) i v) Q ((gp G p).2.drop (i + 1)) (fun u j hu hj hvan => hQ u v _ (fun v => catW (evT pv (gp G p) i v) (bev pv ((gp G p).2.drop (i + 1)) j β)) (Or.inr ⟨p, i, hp, hi, h10, Or.inr (Or.inl ⟨j, hj, hvan, rfl, rfl⟩)⟩) hu hv) _ q1
    rw [gE_at] at this
    exact this
  · have hle : ky w0 (gM2 E pv β (gp G p) i v (gp G p).1) = min (ky w0 (v (gp G p).1)) (ky w0 (evS E pv β (gp G p) i v)) := by
      unfold gM2
      rw [updW_s, minW_ky]
    unfold dM2 dE at hd
    rw [Bool.or_eq_true, Bool.and_eq_true] at hd
    rcases hd with ⟨hvan, hd⟩ | hd
    · have hd := of_decide_eq_true hd
      refine ⟨8 + (gp G p).1, by omega, ?_⟩
      unfold gM2 gE
      rw [updW_n (by omega), if_pos hvan, updW_s, minW_eq_lt hd]; exact hd
    · have hd := of_decide_eq_true hd
      exact ⟨(gp G p).1, by omega, by rw [hle]; omega⟩
  · unfold dM2 dE at hd
    rw [Bool.or_eq_false_iff, Bool.and_eq_false_iff] at hd
    have e1 : gE E pv (gp G p) i v = v := by
      unfold gE
      by_cases hvan : van E ((gp G p).2.drop (i + 1)) = true
      · rw [if_pos hvan]
        have hd1 := of_decide_eq_false (hd.1.resolve_left (by rw [hvan]; decide))
        rw [minW_eq_ge hd1, updW_same]
      · rw [if_neg hvan]
    have hd2 := of_decide_eq_false hd.2
    unfold gM2
    rw [e1, minW_eq_ge hd2, updW_same]
theorem good_Mi (hG : okG G) {p i : Nat} (hp : p < G.length) (hi : i < (gp G p).2.length) : Good w0 16 (RK G E pv β b) (fMi E pv β (gp G p) i) (dMi E pv β (gp G p) i) :=
  good_if (f := fun v => gM2 E pv β (gp G p) i (gM1 pv (gp G p) i v)) (d := fun v => dM1 pv (gp G p) i v || dM2 E pv β (gp G p) i (gM1 pv (gp G p) i v)) (!(decide (sy (gp G p).2 i < 10))) fun h => by
    have h10 : ¬ sy (gp G p).2 i < 10 := by simpa using h
    exact good_seq (good_M1 hG hp hi h10) (good_M2 hG hp hi h10)
theorem good_Mk (hG : okG G) {p : Nat} (hp : p < G.length) : Good w0 16 (RK G E pv β b) (fMk G E pv β p) (dMk G E pv β p) := good_fold _ (fun i hi => good_Mi hG hp hi)
theorem cov_Mi (hG : okG G) {p i : Nat} (hp : p < G.length) (hi : i < (gp G p).2.length) (h10 : ¬ sy (gp G p).2 i < 10) {s : Nat} {ev : vW → wW} (hr : (s = (gp G p).1 ∧ ev = evM pv (gp G p) i) ∨ (∃ j, j < ((gp G p).2.drop (i + 1)).length ∧ van E (((gp G p).2.drop (i + 1)).take j) = true ∧ s = (gp G p).1 ∧ ev = fun v => catW (evT pv (gp G p) i v) (bev pv ((gp G p).2.drop (i + 1)) j β)) ∨ (van E ((gp G p).2.drop (i + 1)) = true ∧ s = 8 + (gp G p).1 ∧ ev = evT pv (gp G p) i)) (v : vW) (hv : leV w0 16 v b) : ky w0 (fMi E pv β (gp G p) i v s) ≤ ky w0 (ev v) := by
  have hRs : RK G E pv β b s ev := Or.inr ⟨p, i, hp, hi, h10, hr⟩
  have hok := okR_RK hG E pv β b
  have e : fMi E pv β (gp G p) i v = gM2 E pv β (gp G p) i (gM1 pv (gp G p) i v) := by
    unfold fMi
    rw [if_pos (by simpa using h10)]
  rw [e]
  rcases hr with ⟨rfl, rfl⟩ | ⟨j, hj, hvan, rfl, rfl⟩ | ⟨hvan, rfl, rfl⟩
  · refine cov_l hok (g := gM2 E pv β (gp G p) i) (f := gM1 pv (gp G p) i) (good_M2 hG hp hi h10) hRs (fun v _ => ?_) v hv
    unfold gM1
    rw [updW_s]; exact minW_le_r _ _ _
  · refine cov_r hok (g := gM2 E pv β (gp G p) i) (f := gM1 pv (gp G p) i) (good_M1 hG hp hi h10) hRs (fun v _ => ?_) v hv
    unfold gM2
    rw [updW_s]
    exact Nat.le_trans (minW_le_r _ _ _) (cat_mono w0_9 (Nat.le_refl _) (stl_le _ j hj hvan))
  · refine cov_r hok (g := gM2 E pv β (gp G p) i) (f := gM1 pv (gp G p) i) (good_M1 hG hp hi h10) hRs (fun v _ => ?_) v hv
    unfold gM2 gE
    rw [updW_n (by omega), if_pos hvan, updW_s]
    exact minW_le_r _ _ _
theorem sweep_K (hG : okG G) : ∃ m : vW → Nat, (∀ v, m v ≤ 16) ∧ ∀ v, leV w0 16 v b → upR w0 16 (RK G E pv β b) v → leV w0 16 (foldN (fMk G E pv β) G.length v) b ∧ upR w0 16 (RK G E pv β b) (foldN (fMk G E pv β) G.length v) ∧ (chN (dMk G E pv β) (fMk G E pv β) G.length v = true → m (foldN (fMk G E pv β) G.length v) < m v) ∧ (chN (dMk G E pv β) (fMk G E pv β) G.length v = false → foldN (fMk G E pv β) G.length v = v ∧ clR w0 (RK G E pv β b) v) := by
  have hR := okR_RK hG E pv β b
  have hg : ∀ p, p < G.length → Good w0 16 (RK G E pv β b) (fMk G E pv β p) (dMk G E pv β p) := fun p hp => good_Mk hG hp
  have hbU : upR w0 16 (RK G E pv β b) b := fun w hw s hs => hw s (fun _ => b s) (Or.inl ⟨hs, rfl⟩)
  refine least_sweep (f := foldN (fMk G E pv β) G.length) (d := chN (dMk G E pv β) (fMk G E pv β) G.length) w0_9 hR hbU (good_fold G.length hg) ?_
  intro s ev hr v hv
  rcases hr with ⟨hs, rfl⟩ | ⟨p, i, hp, hi, h10, hr⟩
  · exact Nat.le_trans (good_le (good_fold G.length hg) v s hs) (hv s hs)
  · refine cov_fold hR G.length hg p hp s ev (Or.inr ⟨p, i, hp, hi, h10, hr⟩) (fun v hv => ?_) v hv
    exact cov_fold (d := dMi E pv β (gp G p)) hR _ (fun i hi => good_Mi hG hp hi) i hi s ev (Or.inr ⟨p, i, hp, hi, h10, hr⟩) (fun v hv => cov_Mi hG hp hi h10 hr v hv) v hv
end MK
