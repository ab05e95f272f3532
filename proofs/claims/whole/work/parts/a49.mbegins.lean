/-! THE REFERENCE'S begins -/
def gl (pv bv v : vW) : vW := fun s => if s < 8 then pv s else if s < 16 then bv (s - 8) else v (s - 16)
theorem gl_8 {pv bv v : vW} {l : Nat} (hl : l < 8) : gl pv bv v (8 + l) = bv l := by
  unfold gl
  rw [if_neg (by omega), if_pos (by omega)]
  congr 1; omega
theorem gl_16 {pv bv v : vW} {l : Nat} : gl pv bv v (16 + l) = v l := by
  unfold gl
  rw [if_neg (by omega), if_neg (by omega)]
  congr 1; omega
theorem gl_0 {pv bv v : vW} {l : Nat} (hl : l < 8) : gl pv bv v l = pv l := by
  unfold gl
  rw [if_pos hl]
theorem gl_upd8 {pv bv v : vW} {l : Nat} (hl : l < 8) (x : wW) : updW (gl pv bv v) (8 + l) x = gl pv (updW bv l x) v := by
  funext s
  by_cases e : s = 8 + l
  · subst e; rw [updW_s, gl_8 hl, updW_s]
  · rw [updW_n e]
    unfold gl
    by_cases h1 : s < 8
    · rw [if_pos h1, if_pos h1]
    · rw [if_neg h1, if_neg h1]
      by_cases h2 : s < 16
      · rw [if_pos h2, if_pos h2, updW_n (by omega)]
      · rw [if_neg h2, if_neg h2]
theorem gl_upd16 {pv bv v : vW} {l : Nat} (x : wW) : updW (gl pv bv v) (16 + l) x = gl pv bv (updW v l x) := by
  funext s
  by_cases e : s = 16 + l
  · subst e; rw [updW_s, gl_16, updW_s]
  · rw [updW_n e]
    unfold gl
    by_cases h1 : s < 8
    · rw [if_pos h1, if_pos h1]
    · rw [if_neg h1, if_neg h1]
      by_cases h2 : s < 16
      · rw [if_pos h2, if_pos h2]
      · rw [if_neg h2, if_neg h2, updW_n (by omega)]
theorem fold_stop {V : Type} {d : Nat → V → Bool} {f : Nat → V → V} {v : V} {j : Nat} : ∀ n, j ≤ n → (∀ i, j ≤ i → i < n → ∀ v, f i v = v ∧ d i v = false) → foldN f n v = foldN f j v ∧ chN d f n v = chN d f j v
  | 0, h, _ => by
    have : j = 0 := by omega
    subst this; exact ⟨rfl, rfl⟩
  | n + 1, h, hs => by
    by_cases e : j = n + 1
    · subst e; exact ⟨rfl, rfl⟩
    · obtain ⟨i1, i2⟩ := fold_stop (d := d) (f := f) (v := v) n (by omega) (fun i h1 h2 => hs i h1 (by omega))
      obtain ⟨a1, a2⟩ := hs n (by omega) (by omega) (foldN f n v)
      refine ⟨?_, ?_⟩
      · show f n (foldN f n v) = _
        rw [a1, i1]
      · show (chN d f n v || d n (foldN f n v)) = _
        rw [a2, i2, Bool.or_false]
theorem van_take_succ {E : Int32} {w : List Nat} {j : Nat} (h : j < w.length) : van E (w.take (j + 1)) = (van E (w.take j) && nb E (sy w j)) := by
  rw [take_sy h]
  simp [van]
theorem van_take_no {E : Int32} {w : List Nat} {j i : Nat} (h : j < w.length) (hn : nb E (sy w j) = false) (hi : j < i) : van E (w.take i) = false := by
  have hm : sy w j ∈ w.take i := List.mem_of_getElem? (i := j) (by rw [List.getElem?_take_of_lt hi]; exact sy_get h)
  cases hv : van E (w.take i) with
  | false => rfl
  | true =>
    unfold van at hv
    have := List.all_eq_true.mp hv _ hm
    rw [hn] at this
    exact absurd this (by decide)
section MB
variable {rules : Int32} {lefts sizes rights : Nat → Int32} {G : List gP} {E : Int32} {pv : vW} {tk : Nat}
theorem m_addsBegun (hM : RM rules lefts sizes rights G) (hG : okG G) (htk : tk ≤ 8) {p i : Nat} (hp : p < G.length) (hi : i < (gp G p).2.length) {strings longs trial : Nat → Int32} {tl : Int32} {x : wO} {bv v : vW} (hx : okW x) (hS : SV strings longs (gl pv bv v) 0 32) (h : TR trial tl x) {N : Nat} (hN : 50 < N) : ∃ o : (Nat → Int32) × Int32, fX12_addsBegun N sizes rights strings longs trial tl (nI p) (nI i) (nI tk) = some o ∧ TR o.1 o.2 (cat x (bev pv (gp G p).2 i (bS tk bv)).1) := by
  have hq := okG_gp hG hp
  have h5 := hq.2.1
  have hl := hG.1
  have hs := okP_sy hq hi
  have hs18 := okS_lt hs
  have htail : ∀ (tr : Nat → Int32) (tl : Int32) (y : wO), okW y → TR tr tl y → ∃ o : (Nat → Int32) × Int32, (bd2 (fX12_addsShortest N rights strings longs tr tl (nI p) (nI i + 1) (nI (gp G p).2.length)) fun o5 o6 => some (o5, o6)) = some o ∧ TR o.1 o.2 (cat y (clv pv ((gp G p).2.drop (i + 1))).1) := by
    intro tr tl y hy hT
    obtain ⟨o, e, hT2⟩ := m_addsShortest hM hG hp (v := pv) hy (fun n hn => by have := hS n (Nat.zero_le _) (by omega); rw [gl_0 hn] at this; exact this) hT (show i + 1 ≤ (gp G p).2.length by omega) (Nat.le_refl _) hN
    have ed : List.take ((gp G p).2.length - (i + 1)) (List.drop (i + 1) (gp G p).2) = List.drop (i + 1) (gp G p).2 := List.take_of_length_le (by rw [List.length_drop]; exact Nat.le_refl _)
    rw [ed] at hT2
    refine ⟨o, ?_, hT2⟩
    rw [nI_1, e]
    simp only [bd2, obs]
  have hb : (bev pv (gp G p).2 i (bS tk bv)).1 = cat (bS tk bv (sy (gp G p).2 i)).1 (clv pv ((gp G p).2.drop (i + 1))).1 := rfl
  rw [hb, ← cat_assoc]
  simp only [fX12_addsBegun, m_symbol hM hG hp hi, obs, jn2, ag_ok (show p < 24 by omega), (hM.2 p hp).2.1]
  generalize sy (gp G p).2 i = s at *
  by_cases h10 : s < 10
  · have h8 : s < 8 := by rcases hs with q | q <;> omega
    rw [if_pos (lt10 h10)]
    by_cases e : s = tk
    · subst e
      obtain ⟨o, e1, hT⟩ := m_adds hx h s
      have e2 : (bS s bv s).1 = some [s] := by unfold bS; rw [if_pos h10, if_pos rfl, wT_val h8]
      rw [if_pos rfl, e2]
      simp only [e1, bd2, obs]
      exact htail o.1 o.2 _ (cat_ok hx (okW_one h8)) hT
    · have e2 : (bS tk bv s).1 = none := by unfold bS; rw [if_pos h10, if_neg e]; rfl
      rw [if_neg (by rw [nI_eq (by omega) (by omega)]; exact e), e2, cat_none_r]
      exact htail trial (-1) none trivial ⟨rfl, fun u hu => by simp at hu⟩
  · have e8 : (8 : Int32) + nI s - 10 = nI (8 + (s - 10)) := by
      rw [n8, nI_add, n10, pk_sub (by omega)]
      congr 1; omega
    rw [if_neg (nlt10 h10 hs18), e8]
    have hsl := hS (8 + (s - 10)) (Nat.zero_le _) (by omega)
    rw [gl_8 (by omega)] at hsl
    obtain ⟨o, e1, hT⟩ := m_addsSlot hx (bv (s - 10)).2 (show 8 + (s - 10) < 32 by omega) hsl h hN
    have e2 : (bS tk bv s).1 = (bv (s - 10)).1 := by unfold bS; rw [if_neg h10]
    rw [e2]
    simp only [e1, bd2, obs]
    exact htail o.1 o.2 _ (cat_ok hx (bv (s - 10)).2) hT
def fBi (E : Int32) (pv : vW) (tk : Nat) (q : gP) (i : Nat) (v : vW) : vW := if van E (q.2.take i) = true then updW v q.1 (minW w0 (v q.1) (bev pv q.2 i (bS tk v))) else v
def dBi (E : Int32) (pv : vW) (tk : Nat) (q : gP) (i : Nat) (v : vW) : Bool := van E (q.2.take i) && decide (ky w0 (bev pv q.2 i (bS tk v)) < ky w0 (v q.1))
theorem m_begins (hM : RM rules lefts sizes rights G) (hG : okG G) (htk : tk ≤ 8) {p : Nat} (hp : p < G.length) {strings longs trial : Nat → Int32} {tl : Int32} {bv v : vW} (hS : SV strings longs (gl pv bv v) 0 32) {N : Nat} (hN : 50 < N) : ∃ st lg tr tl', fX12_begins N lefts sizes rights E strings longs trial tl (nI p) (nI tk) = some (b01 (chN (dBi E pv tk (gp G p)) (fBi E pv tk (gp G p)) (gp G p).2.length bv), st, lg, tr, tl') ∧ SV st lg (gl pv (foldN (fBi E pv tk (gp G p)) (gp G p).2.length bv) v) 0 32 := by
  have hq := okG_gp hG hp
  have h5 := hq.2.1
  have h8 := hq.1
  have hl := hG.1
  simp only [fX12_begins, jn5]
  refine vlp6 (B := bX12_begins_5 N (nI p) (nI tk) lefts sizes rights E fun v1 v2 v3 v4 v5 => gz v1 (some (v1, v2, v3, v4, v5))) (fun j f i st lg tr tl => i = nI j ∧ j ≤ (gp G p).2.length ∧ van E ((gp G p).2.take j) = true ∧ f = b01 (chN (dBi E pv tk (gp G p)) (fBi E pv tk (gp G p)) j bv) ∧ SV st lg (gl pv (foldN (fBi E pv tk (gp G p)) j bv) v) 0 32) (fun r => ∃ st lg tr tl', r = some (b01 (chN (dBi E pv tk (gp G p)) (fBi E pv tk (gp G p)) (gp G p).2.length bv), st, lg, tr, tl') ∧ SV st lg (gl pv (foldN (fBi E pv tk (gp G p)) (gp G p).2.length bv) v) 0 32) (gp G p).2.length ?_ ?_ N 0 0 strings longs trial tl (by omega) ⟨rfl, Nat.zero_le _, rfl, rfl, hS⟩
  · rintro j f i st lg tr tl hj ⟨rfl, _, hvan, rfl, hS1⟩
    have hs := okP_sy hq hj
    have hs18 := okS_lt hs
    have hfs : foldN (fBi E pv tk (gp G p)) (j + 1) bv = fBi E pv tk (gp G p) j (foldN (fBi E pv tk (gp G p)) j bv) := rfl
    have hcs : chN (dBi E pv tk (gp G p)) (fBi E pv tk (gp G p)) (j + 1) bv = (chN (dBi E pv tk (gp G p)) (fBi E pv tk (gp G p)) j bv || dBi E pv tk (gp G p) j (foldN (fBi E pv tk (gp G p)) j bv)) := rfl
    have hstop := fun (hn : nb E (sy (gp G p).2 j) = false) => fold_stop (d := dBi E pv tk (gp G p)) (f := fBi E pv tk (gp G p)) (v := bv) (j := j + 1) (gp G p).2.length (by omega) (fun i h1 h2 v => by
      have := van_take_no hj hn (show j < i by omega)
      unfold fBi dBi
      rw [this]
      exact ⟨rfl, rfl⟩)
    generalize hue : foldN (fBi E pv tk (gp G p)) j bv = u at *
    generalize chN (dBi E pv tk (gp G p)) (fBi E pv tk (gp G p)) j bv = c at *
    obtain ⟨o, e1, hT⟩ := m_addsBegun hM hG htk hp hj (x := some []) wEm.2 hS1 (TR_em tr) hN
    rw [cat_em_l (bev pv (gp G p).2 j (bS tk u)).2] at hT
    obtain ⟨st', lg', e2, hS2⟩ := m_bettersV (by decide : 32 ≤ 32) (Nat.zero_le _) (show 8 + (gp G p).1 < 32 by omega) hS1 hT hN
    rw [gl_8 h8] at e2 hS2
    rw [gl_upd8 h8] at hS2
    have hf1 : fBi E pv tk (gp G p) j u = updW u (gp G p).1 (minW w0 (u (gp G p).1) (bev pv (gp G p).2 j (bS tk u))) := by unfold fBi; rw [if_pos hvan]
    have hd1 : dBi E pv tk (gp G p) j u = decide (ky w0 (bev pv (gp G p).2 j (bS tk u)) < ky w0 (u (gp G p).1)) := by unfold dBi; rw [hvan, Bool.true_and]
    rw [← hf1] at hS2
    rw [← hd1] at e2
    have e88 : (8 : Int32) + nI (gp G p).1 = nI (8 + (gp G p).1) := nI_add 8 _
    have hstep : ∀ rc, bX12_begins_5 N (nI p) (nI tk) lefts sizes rights E (fun v1 v2 v3 v4 v5 => gz v1 (some (v1, v2, v3, v4, v5))) rc (b01 c) (nI j) st lg tr tl = if nb E (sy (gp G p).2 j) = true then rc (b01 (c || dBi E pv tk (gp G p) j u)) (nI (j + 1)) st' lg' o.1 o.2 else some (b01 (c || dBi E pv tk (gp G p) j u), st', lg', o.1, o.2) := by
      intro rc
      simp only [bX12_begins_5, ag_ok (show p < 24 by omega), obs, (hM.2 p hp).2.1]
      rw [if_neg (nI_ge hj (by omega))]
      simp only [m_tries, obs, e1, bd2, (hM.2 p hp).1, e88, e2, bd3, jn_, lt_, m_symbol hM hG hp hj, m_isEmpty E hs18, nI_1]
      rw [fl_or (F := fun z => if b01 (nb E (sy (gp G p).2 j)) = 0 then gz z (some (z, st', lg', o.1, o.2)) else rc z (nI (j + 1)) st' lg' o.1 o.2)]
      unfold gz
      rw [if_pos (b01_01 _)]
      cases nb E (sy (gp G p).2 j) <;> rfl
    cases hn : nb E (sy (gp G p).2 j) with
    | true =>
      left
      refine ⟨_, nI (j + 1), st', lg', o.1, o.2, ⟨rfl, by omega, by rw [van_take_succ hj, hvan, hn]; rfl, by rw [hcs], by rw [hfs]; exact hS2⟩, fun rc => by rw [hstep, hn, if_pos rfl]⟩
    | false =>
      right
      obtain ⟨s1, s2⟩ := hstop hn
      refine ⟨_, ⟨st', lg', o.1, o.2, rfl, by rw [s1, hfs]; exact hS2⟩, fun rc => by rw [hstep, hn, if_neg (by decide), s2, hcs]⟩
  · rintro f i st lg tr tl ⟨rfl, _, hvan, rfl, hS1⟩
    refine ⟨_, ⟨st, lg, tr, tl, rfl, hS1⟩, fun rc => ?_⟩
    simp only [bX12_begins_5, ag_ok (show p < 24 by omega), obs, (hM.2 p hp).2.1]
    rw [if_pos (Int32.le_refl _)]
    unfold gz
    rw [if_pos (b01_01 _)]
def fBm (G : List gP) (E : Int32) (pv : vW) (tk : Nat) (p : Nat) : vW → vW := foldN (fBi E pv tk (gp G p)) (gp G p).2.length
def dBm (G : List gP) (E : Int32) (pv : vW) (tk : Nat) (p : Nat) : vW → Bool := chN (dBi E pv tk (gp G p)) (fBi E pv tk (gp G p)) (gp G p).2.length
theorem good_Bi (hG : okG G) {p i : Nat} (hp : p < G.length) (hi : i < (gp G p).2.length) : Good w0 8 (RB G E pv tk) (fBi E pv tk (gp G p) i) (dBi E pv tk (gp G p) i) :=
  good_if (f := fun v => updW v (gp G p).1 (minW w0 (v (gp G p).1) (bev pv (gp G p).2 i (bS tk v)))) (d := fun v => decide (ky w0 (bev pv (gp G p).2 i (bS tk v)) < ky w0 (v (gp G p).1))) (van E ((gp G p).2.take i)) fun h => good_lower (okR_RB hG E pv tk) (ev := fun v => bev pv (gp G p).2 i (bS tk v)) ⟨p, i, hp, hi, h, rfl, rfl⟩
theorem sweep_Bm (hG : okG G) (E : Int32) (pv : vW) (tk : Nat) : ∃ m : vW → Nat, (∀ v, m v ≤ 8) ∧ ∀ v, upR w0 8 (RB G E pv tk) v → upR w0 8 (RB G E pv tk) (foldN (fBm G E pv tk) G.length v) ∧ (chN (dBm G E pv tk) (fBm G E pv tk) G.length v = true → m (foldN (fBm G E pv tk) G.length v) < m v) ∧ (chN (dBm G E pv tk) (fBm G E pv tk) G.length v = false → foldN (fBm G E pv tk) G.length v = v ∧ clR w0 (RB G E pv tk) v) := by
  have hR := okR_RB hG E pv tk
  have hg : ∀ p, p < G.length → Good w0 8 (RB G E pv tk) (fBm G E pv tk p) (dBm G E pv tk p) := fun p hp => good_fold _ (fun i hi => good_Bi hG hp hi)
  obtain ⟨m, h1, h2⟩ := least_sweep w0_9 hR (upR_no w0_9) (good_fold G.length hg) (by
    rintro s ev ⟨p, i, hp, hi, hvan, rfl, rfl⟩ v hv
    refine cov_fold hR G.length hg p hp _ _ ⟨p, i, hp, hi, hvan, rfl, rfl⟩ (fun v hv => ?_) v hv
    refine cov_fold (d := dBi E pv tk (gp G p)) hR _ (fun i hi => good_Bi hG hp hi) i hi _ _ ⟨p, i, hp, hi, hvan, rfl, rfl⟩ (fun v _ => ?_) v hv
    unfold fBi
    rw [if_pos hvan, updW_s]; exact minW_le_r _ _ _)
  exact ⟨m, h1, fun v hv => (h2 v (leV_no w0_9 v) hv).2⟩
end MB
