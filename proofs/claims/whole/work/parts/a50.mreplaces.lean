/-! THE REFERENCE'S replaces -/
def evR (pv : vW) (β : Nat → wW) (q : gP) (i : Nat) (jj : Nat) (v : vW) : wW := catW (evT pv q i v) (bev pv (q.2.drop (i + 1)) jj β)
def hR2 (E : Int32) (pv : vW) (β : Nat → wW) (q : gP) (i : Nat) (jj : Nat) (v : vW) : vW := if van E ((q.2.drop (i + 1)).take jj) = true then updW v q.1 (minW w0 (v q.1) (evR pv β q i jj v)) else v
def eR2 (E : Int32) (pv : vW) (β : Nat → wW) (q : gP) (i : Nat) (jj : Nat) (v : vW) : Bool := van E ((q.2.drop (i + 1)).take jj) && decide (ky w0 (evR pv β q i jj v) < ky w0 (v q.1))
def hR3 (E : Int32) (pv : vW) (q : gP) (i : Nat) (v : vW) : vW := if van E (q.2.drop (i + 1)) = true then updW v (8 + q.1) (minW w0 (v (8 + q.1)) (evT pv q i v)) else v
def eR3 (E : Int32) (pv : vW) (q : gP) (i : Nat) (v : vW) : Bool := van E (q.2.drop (i + 1)) && decide (ky w0 (evT pv q i v) < ky w0 (v (8 + q.1)))
def h12 (E : Int32) (pv : vW) (β : Nat → wW) (q : gP) (i : Nat) (v : vW) : vW := foldN (hR2 E pv β q i) (q.2.drop (i + 1)).length (gM1 pv q i v)
def e12 (E : Int32) (pv : vW) (β : Nat → wW) (q : gP) (i : Nat) (v : vW) : Bool := dM1 pv q i v || chN (eR2 E pv β q i) (hR2 E pv β q i) (q.2.drop (i + 1)).length (gM1 pv q i v)
def fRi (E : Int32) (pv : vW) (β : Nat → wW) (q : gP) (i : Nat) (v : vW) : vW := if (!(decide (sy q.2 i < 10))) = true then hR3 E pv q i (h12 E pv β q i v) else v
def dRi (E : Int32) (pv : vW) (β : Nat → wW) (q : gP) (i : Nat) (v : vW) : Bool := !(decide (sy q.2 i < 10)) && (e12 E pv β q i v || eR3 E pv q i (h12 E pv β q i v))
def fRk (G : List gP) (E : Int32) (pv : vW) (β : Nat → wW) (p : Nat) : vW → vW := foldN (fRi E pv β (gp G p)) (gp G p).2.length
def dRk (G : List gP) (E : Int32) (pv : vW) (β : Nat → wW) (p : Nat) : vW → Bool := chN (dRi E pv β (gp G p)) (fRi E pv β (gp G p)) (gp G p).2.length
section MRR
variable {G : List gP} {E : Int32} {pv : vW} {β : Nat → wW} {b : vW}
theorem good_R2 (hG : okG G) {p i jj : Nat} (hp : p < G.length) (hi : i < (gp G p).2.length) (h10 : ¬ sy (gp G p).2 i < 10) (hj : jj < ((gp G p).2.drop (i + 1)).length) : Good w0 16 (RK G E pv β b) (hR2 E pv β (gp G p) i jj) (eR2 E pv β (gp G p) i jj) :=
  good_if (f := fun v => updW v (gp G p).1 (minW w0 (v (gp G p).1) (evR pv β (gp G p) i jj v))) (d := fun v => decide (ky w0 (evR pv β (gp G p) i jj v) < ky w0 (v (gp G p).1))) (van E (((gp G p).2.drop (i + 1)).take jj)) fun h => good_lower (okR_RK hG E pv β b) (ev := evR pv β (gp G p) i jj) (Or.inr ⟨p, i, hp, hi, h10, Or.inr (Or.inl ⟨jj, hj, h, rfl, rfl⟩)⟩)
theorem good_R3 (hG : okG G) {p i : Nat} (hp : p < G.length) (hi : i < (gp G p).2.length) (h10 : ¬ sy (gp G p).2 i < 10) : Good w0 16 (RK G E pv β b) (hR3 E pv (gp G p) i) (eR3 E pv (gp G p) i) :=
  good_if (f := fun v => updW v (8 + (gp G p).1) (minW w0 (v (8 + (gp G p).1)) (evT pv (gp G p) i v))) (d := fun v => decide (ky w0 (evT pv (gp G p) i v) < ky w0 (v (8 + (gp G p).1)))) (van E ((gp G p).2.drop (i + 1))) fun h => good_lower (okR_RK hG E pv β b) (ev := evT pv (gp G p) i) (Or.inr ⟨p, i, hp, hi, h10, Or.inr (Or.inr ⟨h, rfl, rfl⟩)⟩)
theorem good_12 (hG : okG G) {p i : Nat} (hp : p < G.length) (hi : i < (gp G p).2.length) (h10 : ¬ sy (gp G p).2 i < 10) : Good w0 16 (RK G E pv β b) (h12 E pv β (gp G p) i) (e12 E pv β (gp G p) i) :=
  good_seq (f := gM1 pv (gp G p) i) (d := dM1 pv (gp G p) i) (g := foldN (hR2 E pv β (gp G p) i) ((gp G p).2.drop (i + 1)).length) (e := chN (eR2 E pv β (gp G p) i) (hR2 E pv β (gp G p) i) ((gp G p).2.drop (i + 1)).length) (good_M1 hG hp hi h10) (good_fold _ (fun jj hj => good_R2 hG hp hi h10 hj))
theorem good_Ri (hG : okG G) {p i : Nat} (hp : p < G.length) (hi : i < (gp G p).2.length) : Good w0 16 (RK G E pv β b) (fRi E pv β (gp G p) i) (dRi E pv β (gp G p) i) :=
  good_if (f := fun v => hR3 E pv (gp G p) i (h12 E pv β (gp G p) i v)) (d := fun v => e12 E pv β (gp G p) i v || eR3 E pv (gp G p) i (h12 E pv β (gp G p) i v)) (!(decide (sy (gp G p).2 i < 10))) fun h => by
    have h10 : ¬ sy (gp G p).2 i < 10 := by simpa using h
    exact good_seq (good_12 hG hp hi h10) (good_R3 hG hp hi h10)
theorem cov_Ri (hG : okG G) {p i : Nat} (hp : p < G.length) (hi : i < (gp G p).2.length) (h10 : ¬ sy (gp G p).2 i < 10) {s : Nat} {ev : vW → wW} (hr : (s = (gp G p).1 ∧ ev = evM pv (gp G p) i) ∨ (∃ j, j < ((gp G p).2.drop (i + 1)).length ∧ van E (((gp G p).2.drop (i + 1)).take j) = true ∧ s = (gp G p).1 ∧ ev = fun v => catW (evT pv (gp G p) i v) (bev pv ((gp G p).2.drop (i + 1)) j β)) ∨ (van E ((gp G p).2.drop (i + 1)) = true ∧ s = 8 + (gp G p).1 ∧ ev = evT pv (gp G p) i)) (v : vW) (hv : leV w0 16 v b) : ky w0 (fRi E pv β (gp G p) i v s) ≤ ky w0 (ev v) := by
  have hRs : RK G E pv β b s ev := Or.inr ⟨p, i, hp, hi, h10, hr⟩
  have hok := okR_RK hG E pv β b
  have e : fRi E pv β (gp G p) i v = hR3 E pv (gp G p) i (h12 E pv β (gp G p) i v) := by
    unfold fRi
    rw [if_pos (by simpa using h10)]
  rw [e]
  rcases hr with ⟨rfl, rfl⟩ | ⟨j, hj, hvan, rfl, rfl⟩ | ⟨hvan, rfl, rfl⟩
  · refine cov_l hok (g := hR3 E pv (gp G p) i) (f := h12 E pv β (gp G p) i) (good_R3 hG hp hi h10) hRs (fun v hv => ?_) v hv
    refine cov_l hok (g := foldN (hR2 E pv β (gp G p) i) ((gp G p).2.drop (i + 1)).length) (e := chN (eR2 E pv β (gp G p) i) (hR2 E pv β (gp G p) i) ((gp G p).2.drop (i + 1)).length) (f := gM1 pv (gp G p) i) (good_fold _ (fun jj hj => good_R2 hG hp hi h10 hj)) hRs (fun v _ => ?_) v hv
    unfold gM1
    rw [updW_s]; exact minW_le_r _ _ _
  · refine cov_l hok (g := hR3 E pv (gp G p) i) (f := h12 E pv β (gp G p) i) (good_R3 hG hp hi h10) hRs (fun v hv => ?_) v hv
    refine cov_r hok (g := foldN (hR2 E pv β (gp G p) i) ((gp G p).2.drop (i + 1)).length) (f := gM1 pv (gp G p) i) (good_M1 hG hp hi h10) hRs (fun v hv => ?_) v hv
    refine cov_fold (d := eR2 E pv β (gp G p) i) hok _ (fun jj hj => good_R2 hG hp hi h10 hj) j hj _ _ hRs (fun v _ => ?_) v hv
    unfold hR2
    rw [if_pos hvan, updW_s]; exact minW_le_r _ _ _
  · refine cov_r hok (g := hR3 E pv (gp G p) i) (f := h12 E pv β (gp G p) i) (good_12 hG hp hi h10) hRs (fun v _ => ?_) v hv
    unfold hR3
    rw [if_pos hvan, updW_s]; exact minW_le_r _ _ _
theorem sweep_Rk (hG : okG G) : ∃ m : vW → Nat, (∀ v, m v ≤ 16) ∧ ∀ v, leV w0 16 v b → upR w0 16 (RK G E pv β b) v → leV w0 16 (foldN (fRk G E pv β) G.length v) b ∧ upR w0 16 (RK G E pv β b) (foldN (fRk G E pv β) G.length v) ∧ (chN (dRk G E pv β) (fRk G E pv β) G.length v = true → m (foldN (fRk G E pv β) G.length v) < m v) ∧ (chN (dRk G E pv β) (fRk G E pv β) G.length v = false → foldN (fRk G E pv β) G.length v = v ∧ clR w0 (RK G E pv β b) v) := by
  have hR := okR_RK hG E pv β b
  have hg : ∀ p, p < G.length → Good w0 16 (RK G E pv β b) (fRk G E pv β p) (dRk G E pv β p) := fun p hp => good_fold _ (fun i hi => good_Ri hG hp hi)
  refine least_sweep (f := foldN (fRk G E pv β) G.length) (d := chN (dRk G E pv β) (fRk G E pv β) G.length) w0_9 hR upR_base (good_fold G.length hg) ?_
  intro s ev hr v hv
  rcases hr with ⟨hs, rfl⟩ | ⟨p, i, hp, hi, h10, hr⟩
  · exact Nat.le_trans (good_le (good_fold G.length hg) v s hs) (hv s hs)
  · refine cov_fold hR G.length hg p hp s ev (Or.inr ⟨p, i, hp, hi, h10, hr⟩) (fun v hv => ?_) v hv
    exact cov_fold (d := dRi E pv β (gp G p)) hR _ (fun i hi => good_Ri hG hp hi) i hi s ev (Or.inr ⟨p, i, hp, hi, h10, hr⟩) (fun v hv => cov_Ri hG hp hi h10 hr v hv) v hv
end MRR
theorem jn_elim {V ρ : Type} {K : V → Option ρ} {B : (V → Option ρ) → Option ρ} {r : Option ρ} (h : ∀ k, k = K → B k = r) : jn_ K B = r := h K rfl
theorem jn5_elim {A0 A1 A2 A3 A4 ρ : Type} {K : A0 → A1 → A2 → A3 → A4 → Option ρ} {B : (A0 → A1 → A2 → A3 → A4 → Option ρ) → Option ρ} {r : Option ρ} (h : ∀ k, k = K → B k = r) : jn5 K B = r := h K rfl
theorem bev_drop {pv : vW} {w : List Nat} {a j : Nat} {β : Nat → wW} : bev pv (w.drop a) j β = bev pv w (a + j) β := by
  unfold bev
  rw [sy_drop, List.drop_drop]
  congr 3
theorem rep_flow {N : Nat} {p1 p2 : Int32} {lefts sizes rights : Nat → Int32} {E : Int32} {k6 : Int32 → (Nat → Int32) → (Nat → Int32) → (Nat → Int32) → Int32 → Option (Int32 × (Nat → Int32) × (Nat → Int32) × (Nat → Int32) × Int32)} {v8 v12 sz s L tl1 tl2 : Int32} {v9 v10 v11 tr1 st1 lg1 st2 lg2 tr2 : Nat → Int32} {c d1 d2 : Bool}
    (h1 : ag sizes 24 p1 = some sz) (h2 : ¬ sz ≤ v8) (h3 : fX12_symbol rights p1 v8 = some s) (h4 : 0 ≤ s - 10)
    (hA : ∀ F : (Nat → Int32) → Int32 → Option (Int32 × (Nat → Int32) × (Nat → Int32) × (Nat → Int32) × Int32), (bd2 (fX12_addsShortest N rights v9 v10 v11 0 p1 0 v8) fun o25 o26 => bd2 (fX12_addsSlot N v9 v10 o25 o26 (16 + (s - 10))) fun o27 o28 => bd2 (fX12_addsShortest N rights v9 v10 o27 o28 p1 (v8 + 1) sz) fun o30 o31 => F o30 o31) = F tr1 tl1)
    (hL : ag lefts 24 p1 = some L)
    (hB : fX12_betters N v9 v10 tr1 tl1 (16 + L) = some (b01 d1, st1, lg1))
    (hI : ∀ k57, itr6 (bX12_replaces_104 N p1 p2 lefts sizes rights E v8 (s - 10) k57 k57) N (b01 (c || d1)) (v8 + 1) st1 lg1 tr1 tl1 = k57 (b01 d2) st2 lg2 tr2 tl2) (rc : Int32 → Int32 → (Nat → Int32) → (Nat → Int32) → (Nat → Int32) → Int32 → Option (Int32 × (Nat → Int32) × (Nat → Int32) × (Nat → Int32) × Int32)) :
    bX12_replaces_5 N p1 p2 lefts sizes rights E k6 rc (b01 c) v8 v9 v10 v11 v12 = ((fX12_areEmpty N sizes rights E p1 (v8 + (1 : Int32))).bind fun x43 => if x43 = 0 then rc (b01 d2) (v8 + 1) st2 lg2 tr2 tl2 else bd2 (fX12_addsShortest N rights st2 lg2 tr2 0 p1 0 v8) fun o45 o46 => bd2 (fX12_addsSlot N st2 lg2 o45 o46 (24 + (s - 10))) fun o47 o48 => bd3 (fX12_betters N st2 lg2 o47 o48 (24 + L)) fun o52 o50 o51 => if o52 = 0 then (if b01 d2 = 0 then rc 0 (v8 + 1) o50 o51 o47 o48 else rc 1 (v8 + 1) o50 o51 o47 o48) else rc 1 (v8 + 1) o50 o51 o47 o48) := by
  simp only [bX12_replaces_5, h1, obs]
  rw [if_neg h2]
  simp only [h3, obs, lt_]
  refine jn5_elim fun k23 hk23 => ?_
  rw [if_pos h4]
  simp only [m_tries, obs, h1]
  rw [hA]
  simp only [hL, obs, hB, bd3]
  have hfl : ∀ (k100 : Int32 → Option (Int32 × (Nat → Int32) × (Nat → Int32) × (Nat → Int32) × Int32)), (jn_ (fun (v101 : Unit) => k100 1) fun k102 => if b01 d1 = 0 then (if b01 c = 0 then (k100 0) else (k102 ())) else (k102 ())) = k100 (b01 (c || d1)) := by
    intro k100
    simp only [jn_]
    rw [fl_or (F := k100)]
  refine jn_elim fun k100 hk100 => ?_
  rw [hfl k100, hk100]
  simp only [lt_]
  refine jn5_elim fun k57 hk57 => ?_
  simp only [jn5]
  rw [hI, hk57]
  simp only [hk23, jn_]
section MR2
variable {rules : Int32} {lefts sizes rights : Nat → Int32} {G : List gP} {E : Int32} {pv : vW} {tk : Nat}
/-- what is ahead of symbol i, and a slot behind it -/
theorem m_ahead (hM : RM rules lefts sizes rights G) (hG : okG G) {p i : Nat} (hp : p < G.length) (hi : i < (gp G p).2.length) {strings longs : Nat → Int32} (trial : Nat → Int32) {bv v : vW} (hS : SV strings longs (gl pv bv v) 0 32) {k : Nat} (hk : k < 16) {N : Nat} (hN : 50 < N) : ∃ o : (Nat → Int32) × Int32, ∀ {ρ : Type} (F : (Nat → Int32) → Int32 → Option ρ), (bd2 (fX12_addsShortest N rights strings longs trial 0 (nI p) 0 (nI i)) fun o1 o2 => bd2 (fX12_addsSlot N strings longs o1 o2 (nI (16 + k))) fun o3 o4 => F o3 o4) = F o.1 o.2 ∧ TR o.1 o.2 (catW (clv pv ((gp G p).2.take i)) (v k)).1 := by
  obtain ⟨o1, e1, hT1⟩ := m_addsShortest hM hG hp (v := pv) (x := some []) wEm.2 (fun n hn => by have := hS n (Nat.zero_le _) (by omega); rw [gl_0 hn] at this; exact this) (TR_em trial) (Nat.zero_le i) (show i ≤ (gp G p).2.length by omega) hN
  rw [List.drop_zero, Nat.sub_zero, cat_em_l (clv pv _).2] at hT1
  have hsl := hS (16 + k) (Nat.zero_le _) (by omega)
  rw [gl_16] at hsl
  obtain ⟨o2, e2, hT2⟩ := m_addsSlot (clv pv _).2 (v k).2 (show 16 + k < 32 by omega) hsl hT1 hN
  have z0 : (nI 0 : Int32) = 0 := rfl
  rw [z0] at e1
  refine ⟨o2, fun F => ⟨?_, hT2⟩⟩
  rw [e1]
  simp only [bd2, obs, e2]
theorem m_repInner (hM : RM rules lefts sizes rights G) (hG : okG G) (htk : tk ≤ 8) {p i : Nat} (hp : p < G.length) (hi : i < (gp G p).2.length) (h10 : ¬ sy (gp G p).2 i < 10) {strings longs trial : Nat → Int32} {tl : Int32} {bv v : vW} (hS : SV strings longs (gl pv bv v) 0 32) (c : Bool) {N : Nat} (hN : 50 < N) : ∃ st lg tr tl', (∀ k57, itr6 (bX12_replaces_104 N (nI p) (nI tk) lefts sizes rights E (nI i) (nI (sy (gp G p).2 i - 10)) k57 k57) N (b01 c) (nI (i + 1)) strings longs trial tl = k57 (b01 (c || chN (eR2 E pv (bS tk bv) (gp G p) i) (hR2 E pv (bS tk bv) (gp G p) i) ((gp G p).2.drop (i + 1)).length v)) st lg tr tl') ∧ SV st lg (gl pv bv (foldN (hR2 E pv (bS tk bv) (gp G p) i) ((gp G p).2.drop (i + 1)).length v)) 0 32 := by
  have hq := okG_gp hG hp
  have h5 := hq.2.1
  have h8 := hq.1
  have hl := hG.1
  have hsi := okS_lt (okP_sy hq hi)
  have hlen : ((gp G p).2.drop (i + 1)).length = (gp G p).2.length - (i + 1) := List.length_drop
  refine vlq6 (B := fun k57 => bX12_replaces_104 N (nI p) (nI tk) lefts sizes rights E (nI i) (nI (sy (gp G p).2 i - 10)) k57 k57) (fun j f ix st lg tr tl => ix = nI (i + 1 + j) ∧ j ≤ ((gp G p).2.drop (i + 1)).length ∧ van E (((gp G p).2.drop (i + 1)).take j) = true ∧ f = b01 (c || chN (eR2 E pv (bS tk bv) (gp G p) i) (hR2 E pv (bS tk bv) (gp G p) i) j v) ∧ SV st lg (gl pv bv (foldN (hR2 E pv (bS tk bv) (gp G p) i) j v)) 0 32) (fun r => ∃ st lg tr tl', (∀ k57, r k57 = k57 (b01 (c || chN (eR2 E pv (bS tk bv) (gp G p) i) (hR2 E pv (bS tk bv) (gp G p) i) ((gp G p).2.drop (i + 1)).length v)) st lg tr tl') ∧ SV st lg (gl pv bv (foldN (hR2 E pv (bS tk bv) (gp G p) i) ((gp G p).2.drop (i + 1)).length v)) 0 32) ((gp G p).2.drop (i + 1)).length ?_ ?_ N (b01 c) (nI (i + 1)) strings longs trial tl (by omega) ⟨rfl, Nat.zero_le _, rfl, by simp [chN], hS⟩
  · rintro j f ix st lg tr tl hj ⟨rfl, _, hvan, rfl, hS1⟩
    have hjl : i + 1 + j < (gp G p).2.length := by omega
    have hs := okP_sy hq hjl
    have hs18 := okS_lt hs
    have hsyd : sy ((gp G p).2.drop (i + 1)) j = sy (gp G p).2 (i + 1 + j) := sy_drop
    have hfs : foldN (hR2 E pv (bS tk bv) (gp G p) i) (j + 1) v = hR2 E pv (bS tk bv) (gp G p) i j (foldN (hR2 E pv (bS tk bv) (gp G p) i) j v) := rfl
    have hcs : (c || chN (eR2 E pv (bS tk bv) (gp G p) i) (hR2 E pv (bS tk bv) (gp G p) i) (j + 1) v) = ((c || chN (eR2 E pv (bS tk bv) (gp G p) i) (hR2 E pv (bS tk bv) (gp G p) i) j v) || eR2 E pv (bS tk bv) (gp G p) i j (foldN (hR2 E pv (bS tk bv) (gp G p) i) j v)) := by
      rw [Bool.or_assoc]; rfl
    have hstop := fun (hn : nb E (sy ((gp G p).2.drop (i + 1)) j) = false) => fold_stop (d := eR2 E pv (bS tk bv) (gp G p) i) (f := hR2 E pv (bS tk bv) (gp G p) i) (v := v) (j := j + 1) ((gp G p).2.drop (i + 1)).length (by omega) (fun x h1 h2 v => by
      have := van_take_no hj hn (show j < x by omega)
      unfold hR2 eR2
      rw [this]
      exact ⟨rfl, rfl⟩)
    generalize hue : foldN (hR2 E pv (bS tk bv) (gp G p) i) j v = u at *
    generalize hce : (c || chN (eR2 E pv (bS tk bv) (gp G p) i) (hR2 E pv (bS tk bv) (gp G p) i) j v) = c1 at *
    obtain ⟨oa, hoa⟩ := m_ahead hM hG hp hi tr hS1 (show 8 + (sy (gp G p).2 i - 10) < 16 by omega) hN
    have hTa : TR oa.1 oa.2 (evT pv (gp G p) i u).1 := (hoa (ρ := Unit) (fun _ _ => none)).2
    obtain ⟨o, e1, hT⟩ := m_addsBegun hM hG htk hp hjl (evT pv (gp G p) i u).2 hS1 hTa hN
    obtain ⟨st', lg', e2, hS2⟩ := m_bettersV (x := evR pv (bS tk bv) (gp G p) i j u) (by decide : 32 ≤ 32) (Nat.zero_le _) (show 16 + (gp G p).1 < 32 by omega) hS1 (by unfold evR; rw [bev_drop]; exact hT) hN
    rw [gl_16] at e2 hS2
    rw [gl_upd16] at hS2
    have hf1 : hR2 E pv (bS tk bv) (gp G p) i j u = updW u (gp G p).1 (minW w0 (u (gp G p).1) (evR pv (bS tk bv) (gp G p) i j u)) := by unfold hR2; rw [if_pos hvan]
    have hd1 : eR2 E pv (bS tk bv) (gp G p) i j u = decide (ky w0 (evR pv (bS tk bv) (gp G p) i j u) < ky w0 (u (gp G p).1)) := by unfold eR2; rw [hvan, Bool.true_and]
    rw [← hf1] at hS2
    rw [← hd1] at e2
    have e16 : (16 : Int32) + nI (gp G p).1 = nI (16 + (gp G p).1) := nI_add 16 _
    have e24 : (24 : Int32) + nI (sy (gp G p).2 i - 10) = nI (16 + (8 + (sy (gp G p).2 i - 10))) := by
      have : (24 : Int32) = nI 24 := rfl
      rw [this, nI_add]; congr 1; omega
    have hstep : ∀ k57 rc, bX12_replaces_104 N (nI p) (nI tk) lefts sizes rights E (nI i) (nI (sy (gp G p).2 i - 10)) k57 k57 rc (b01 c1) (nI (i + 1 + j)) st lg tr tl = if nb E (sy (gp G p).2 (i + 1 + j)) = true then rc (b01 (c1 || eR2 E pv (bS tk bv) (gp G p) i j u)) (nI (i + 1 + (j + 1))) st' lg' o.1 o.2 else k57 (b01 (c1 || eR2 E pv (bS tk bv) (gp G p) i j u)) st' lg' o.1 o.2 := by
      intro k57 rc
      simp only [bX12_replaces_104, ag_ok (show p < 24 by omega), obs, (hM.2 p hp).2.1]
      rw [if_neg (nI_ge hjl (by omega))]
      simp only [m_tries, obs, e24]
      rw [(hoa _).1]
      simp only [e1, bd2, obs, (hM.2 p hp).1, e16, e2, bd3, jn_, lt_, m_symbol hM hG hp hjl, m_isEmpty E hs18, nI_1]
      rw [fl_or (F := fun z => if b01 (nb E (sy (gp G p).2 (i + 1 + j))) = 0 then k57 z st' lg' o.1 o.2 else rc z (nI (i + 1 + j + 1)) st' lg' o.1 o.2)]
      cases nb E (sy (gp G p).2 (i + 1 + j)) <;> rfl
    cases hn : nb E (sy (gp G p).2 (i + 1 + j)) with
    | true =>
      left
      exact ⟨_, nI (i + 1 + (j + 1)), st', lg', o.1, o.2, ⟨rfl, by omega, by rw [van_take_succ hj, hvan, hsyd, hn]; rfl, by rw [hcs], by rw [hfs]; exact hS2⟩, fun k57 rc => by rw [hstep, hn, if_pos rfl]⟩
    | false =>
      right
      obtain ⟨s1, s2⟩ := hstop (by rw [hsyd]; exact hn)
      refine ⟨_, ⟨st', lg', o.1, o.2, fun k57 => rfl, by rw [s1, hfs]; exact hS2⟩, fun k57 rc => by rw [hstep, hn, if_neg (by decide), s2, hcs]⟩
  · rintro f ix st lg tr tl ⟨rfl, _, hvan, rfl, hS1⟩
    refine ⟨_, ⟨st, lg, tr, tl, fun k57 => rfl, hS1⟩, fun k57 rc => ?_⟩
    simp only [bX12_replaces_104, ag_ok (show p < 24 by omega), obs, (hM.2 p hp).2.1]
    rw [if_pos (nI_le (by omega) (by omega))]
theorem m_replaces (hM : RM rules lefts sizes rights G) (hG : okG G) (htk : tk ≤ 8) {p : Nat} (hp : p < G.length) {strings longs trial : Nat → Int32} {tl : Int32} {bv v : vW} (hS : SV strings longs (gl pv bv v) 0 32) {N : Nat} (hN : 50 < N) : ∃ st lg tr tl', fX12_replaces N lefts sizes rights E strings longs trial tl (nI p) (nI tk) = some (b01 (dRk G E pv (bS tk bv) p v), st, lg, tr, tl') ∧ SV st lg (gl pv bv (fRk G E pv (bS tk bv) p v)) 0 32 := by
  have hq := okG_gp hG hp
  have h5 := hq.2.1
  have h8 := hq.1
  have hl := hG.1
  simp only [fX12_replaces, jn5]
  unfold dRk fRk
  refine vlp6 (B := bX12_replaces_5 N (nI p) (nI tk) lefts sizes rights E fun v1 v2 v3 v4 v5 => gz v1 (some (v1, v2, v3, v4, v5))) (fun j f i st lg tr tl => i = nI j ∧ j ≤ (gp G p).2.length ∧ f = b01 (chN (dRi E pv (bS tk bv) (gp G p)) (fRi E pv (bS tk bv) (gp G p)) j v) ∧ SV st lg (gl pv bv (foldN (fRi E pv (bS tk bv) (gp G p)) j v)) 0 32) (fun r => ∃ st lg tr tl', r = some (b01 (chN (dRi E pv (bS tk bv) (gp G p)) (fRi E pv (bS tk bv) (gp G p)) (gp G p).2.length v), st, lg, tr, tl') ∧ SV st lg (gl pv bv (foldN (fRi E pv (bS tk bv) (gp G p)) (gp G p).2.length v)) 0 32) (gp G p).2.length ?_ ?_ N 0 0 strings longs trial tl (by omega) ⟨rfl, Nat.zero_le _, rfl, hS⟩
  · rintro j f i st lg tr tl hj ⟨rfl, _, rfl, hS1⟩
    left
    have hs := okP_sy hq hj
    have hs18 := okS_lt hs
    have hfs : foldN (fRi E pv (bS tk bv) (gp G p)) (j + 1) v = fRi E pv (bS tk bv) (gp G p) j (foldN (fRi E pv (bS tk bv) (gp G p)) j v) := rfl
    have hcs : chN (dRi E pv (bS tk bv) (gp G p)) (fRi E pv (bS tk bv) (gp G p)) (j + 1) v = (chN (dRi E pv (bS tk bv) (gp G p)) (fRi E pv (bS tk bv) (gp G p)) j v || dRi E pv (bS tk bv) (gp G p) j (foldN (fRi E pv (bS tk bv) (gp G p)) j v)) := rfl
    rw [hcs, hfs]
    generalize foldN (fRi E pv (bS tk bv) (gp G p)) j v = u at *
    generalize chN (dRi E pv (bS tk bv) (gp G p)) (fRi E pv (bS tk bv) (gp G p)) j v = c at *
    by_cases h10 : sy (gp G p).2 j < 10
    · have hf1 : fRi E pv (bS tk bv) (gp G p) j u = u := by unfold fRi; rw [if_neg (by simp [h10])]
      have hd1 : dRi E pv (bS tk bv) (gp G p) j u = false := by unfold dRi; simp [h10]
      rw [hf1, hd1, Bool.or_false]
      refine ⟨b01 c, nI (j + 1), st, lg, tr, tl, ⟨rfl, by omega, rfl, hS1⟩, fun rc => ?_⟩
      have hneg : ¬ 0 ≤ nI (sy (gp G p).2 j) - 10 := by
        have := pk_sneg (a := sy (gp G p).2 j) (b := 10) (by decide) h10
        exact Int32.not_le.mpr this
      simp only [bX12_replaces_5, ag_ok (show p < 24 by omega), obs, (hM.2 p hp).2.1]
      rw [if_neg (nI_ge hj (by omega))]
      simp only [m_symbol hM hG hp hj, obs, lt_, jn5, nI_1]
      rw [if_neg hneg]
    · have hf1 : fRi E pv (bS tk bv) (gp G p) j u = hR3 E pv (gp G p) j (h12 E pv (bS tk bv) (gp G p) j u) := by unfold fRi; rw [if_pos (by simp [h10])]
      have hd1 : dRi E pv (bS tk bv) (gp G p) j u = (e12 E pv (bS tk bv) (gp G p) j u || eR3 E pv (gp G p) j (h12 E pv (bS tk bv) (gp G p) j u)) := by unfold dRi; simp [h10]
      rw [hf1, hd1]
      -- first act
      obtain ⟨oa, hoa⟩ := m_ahead hM hG hp hj tr hS1 (show sy (gp G p).2 j - 10 < 16 by omega) hN
      have hTa : TR oa.1 oa.2 (catW (clv pv ((gp G p).2.take j)) (u (sy (gp G p).2 j - 10))).1 := (hoa (ρ := Unit) (fun _ _ => none)).2
      obtain ⟨ob, eb, hTb⟩ := m_addsShortest hM hG hp (v := pv) (catW (clv pv ((gp G p).2.take j)) (u (sy (gp G p).2 j - 10))).2 (fun n hn => by have := hS1 n (Nat.zero_le _) (by omega); rw [gl_0 hn] at this; exact this) hTa (show j + 1 ≤ (gp G p).2.length by omega) (Nat.le_refl _) hN
      have ed : List.take ((gp G p).2.length - (j + 1)) (List.drop (j + 1) (gp G p).2) = List.drop (j + 1) (gp G p).2 := List.take_of_length_le (by rw [List.length_drop]; exact Nat.le_refl _)
      rw [ed] at hTb
      obtain ⟨st1, lg1, e1, hS2⟩ := m_bettersV (x := evM pv (gp G p) j u) (by decide : 32 ≤ 32) (Nat.zero_le _) (show 16 + (gp G p).1 < 32 by omega) hS1 hTb hN
      rw [gl_16] at e1 hS2
      rw [gl_upd16] at hS2
      have hg1 : updW u (gp G p).1 (minW w0 (u (gp G p).1) (evM pv (gp G p) j u)) = gM1 pv (gp G p) j u := rfl
      have hgd : decide (ky w0 (evM pv (gp G p) j u) < ky w0 (u (gp G p).1)) = dM1 pv (gp G p) j u := rfl
      rw [hg1] at hS2
      rw [hgd] at e1
      -- second act
      obtain ⟨st2, lg2, tr2, tl2, e2, hS3⟩ := m_repInner hM hG htk hp hj h10 (trial := ob.1) (tl := ob.2) hS2 (c || dM1 pv (gp G p) j u) hN
      have hh : foldN (hR2 E pv (bS tk bv) (gp G p) j) ((gp G p).2.drop (j + 1)).length (gM1 pv (gp G p) j u) = h12 E pv (bS tk bv) (gp G p) j u := rfl
      have he : ((c || dM1 pv (gp G p) j u) || chN (eR2 E pv (bS tk bv) (gp G p) j) (hR2 E pv (bS tk bv) (gp G p) j) ((gp G p).2.drop (j + 1)).length (gM1 pv (gp G p) j u)) = (c || e12 E pv (bS tk bv) (gp G p) j u) := by rw [Bool.or_assoc]; rfl
      rw [hh] at hS3
      rw [he] at e2
      generalize hw12 : h12 E pv (bS tk bv) (gp G p) j u = w at *
      generalize e12 E pv (bS tk bv) (gp G p) j u = d2 at *
      generalize dM1 pv (gp G p) j u = d1 at *
      -- third act
      have e16 : (16 : Int32) + nI (gp G p).1 = nI (16 + (gp G p).1) := nI_add 16 _
      have e16s : (16 : Int32) + nI (sy (gp G p).2 j - 10) = nI (16 + (sy (gp G p).2 j - 10)) := nI_add 16 _
      have e24 : (24 : Int32) + nI (sy (gp G p).2 j - 10) = nI (16 + (8 + (sy (gp G p).2 j - 10))) := by
        have : (24 : Int32) = nI 24 := rfl
        rw [this, nI_add]; congr 1; omega
      have e24l : (24 : Int32) + nI (gp G p).1 = nI (16 + (8 + (gp G p).1)) := by
        have : (24 : Int32) = nI 24 := rfl
        rw [this, nI_add]; congr 1; omega
      have harea := m_areEmpty hM hG E hp (show 5 < N by omega) (j + 1) (by omega)
      have hpre : ∀ rc, bX12_replaces_5 N (nI p) (nI tk) lefts sizes rights E (fun v1 v2 v3 v4 v5 => gz v1 (some (v1, v2, v3, v4, v5))) rc (b01 c) (nI j) st lg tr tl = (if b01 (van E ((gp G p).2.drop (j + 1))) = 0 then rc (b01 (c || d2)) (nI (j + 1)) st2 lg2 tr2 tl2 else bd2 (fX12_addsShortest N rights st2 lg2 tr2 0 (nI p) 0 (nI j)) fun o45 o46 => bd2 (fX12_addsSlot N st2 lg2 o45 o46 (nI (16 + (8 + (sy (gp G p).2 j - 10))))) fun o47 o48 => bd3 (fX12_betters N st2 lg2 o47 o48 (nI (16 + (8 + (gp G p).1)))) fun o52 o50 o51 => if o52 = 0 then (if b01 (c || d2) = 0 then rc 0 (nI (j + 1)) o50 o51 o47 o48 else rc 1 (nI (j + 1)) o50 o51 o47 o48) else rc 1 (nI (j + 1)) o50 o51 o47 o48) := by
        intro rc
        have hfl := rep_flow (N := N) (p1 := nI p) (p2 := nI tk) (lefts := lefts) (sizes := sizes) (rights := rights) (E := E) (k6 := fun v1 v2 v3 v4 v5 => gz v1 (some (v1, v2, v3, v4, v5))) (v8 := nI j) (v9 := st) (v10 := lg) (v11 := tr) (v12 := tl) (sz := nI (gp G p).2.length) (s := nI (sy (gp G p).2 j)) (L := nI (gp G p).1) (tr1 := ob.1) (tl1 := ob.2) (st1 := st1) (lg1 := lg1) (st2 := st2) (lg2 := lg2) (tr2 := tr2) (tl2 := tl2) (c := c) (d1 := d1) (d2 := c || d2) (by rw [ag_ok (show p < 24 by omega), (hM.2 p hp).2.1]) (nI_ge hj (by omega)) (m_symbol hM hG hp hj) (by rw [sub10 h10]; exact nI_pos' (by omega)) (fun F => by
          rw [sub10 h10, e16s, (hoa _).1, nI_1, eb]
          simp only [bd2, obs]) (by rw [ag_ok (show p < 24 by omega), (hM.2 p hp).1]) (by rw [e16]; exact e1) (fun k57 => by rw [sub10 h10, nI_1]; exact e2 k57) rc
        rw [hfl, sub10 h10, e24, e24l, nI_1, harea]
        simp only [obs]
      cases hvan : van E ((gp G p).2.drop (j + 1)) with
      | false =>
        have hh3 : hR3 E pv (gp G p) j w = w := by unfold hR3; rw [if_neg (by rw [hvan]; decide)]
        have he3 : eR3 E pv (gp G p) j w = false := by unfold eR3; rw [hvan, Bool.false_and]
        rw [hh3, he3, Bool.or_false]
        exact ⟨_, nI (j + 1), st2, lg2, tr2, tl2, ⟨rfl, by omega, rfl, hS3⟩, fun rc => by rw [hpre, hvan, if_pos (by rfl)]⟩
      | true =>
        obtain ⟨oc, hoc⟩ := m_ahead hM hG hp hj tr2 hS3 (show 8 + (sy (gp G p).2 j - 10) < 16 by omega) hN
        have hTc : TR oc.1 oc.2 (evT pv (gp G p) j w).1 := (hoc (ρ := Unit) (fun _ _ => none)).2
        obtain ⟨st3, lg3, e3, hS4⟩ := m_bettersV (x := evT pv (gp G p) j w) (by decide : 32 ≤ 32) (Nat.zero_le _) (show 16 + (8 + (gp G p).1) < 32 by omega) hS3 hTc hN
        rw [gl_16] at e3 hS4
        rw [gl_upd16] at hS4
        have hh3 : hR3 E pv (gp G p) j w = updW w (8 + (gp G p).1) (minW w0 (w (8 + (gp G p).1)) (evT pv (gp G p) j w)) := by unfold hR3; rw [if_pos hvan]
        have he3 : eR3 E pv (gp G p) j w = decide (ky w0 (evT pv (gp G p) j w) < ky w0 (w (8 + (gp G p).1))) := by unfold eR3; rw [hvan, Bool.true_and]
        rw [← hh3] at hS4
        rw [← he3] at e3
        refine ⟨_, nI (j + 1), st3, lg3, oc.1, oc.2, ⟨rfl, by omega, rfl, hS4⟩, fun rc => ?_⟩
        rw [hpre, hvan, if_neg (by decide), (hoc _).1, e3]
        simp only [bd3, obs]
        rw [fl_or (F := fun z => rc z (nI (j + 1)) st3 lg3 oc.1 oc.2), Bool.or_assoc]
  · rintro f i st lg tr tl ⟨rfl, _, rfl, hS1⟩
    refine ⟨_, ⟨st, lg, tr, tl, rfl, hS1⟩, fun rc => ?_⟩
    simp only [bX12_replaces_5, ag_ok (show p < 24 by omega), obs, (hM.2 p hp).2.1]
    rw [if_pos (Int32.le_refl _)]
    unfold gz
    rw [if_pos (b01_01 _)]
end MR2
