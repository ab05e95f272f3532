/-! THE REFERENCE'S repair -/
theorem whq7 {K A A1 A2 A3 A4 A5 A6 ρ : Type} {B : K → (Int32 → A1 → A2 → A3 → A4 → A5 → A6 → Option ρ) → Int32 → A1 → A2 → A3 → A4 → A5 → A6 → Option ρ} {k : K → A1 → A2 → A3 → A4 → A5 → A6 → Option ρ} (Rel : A → A1 → A2 → A3 → A4 → A5 → A6 → Prop) (Fin : A → A1 → A2 → A3 → A4 → A5 → A6 → Prop) (m : A → Nat)
    (h0 : ∀ κ rc a1 a2 a3 a4 a5 a6, B κ rc 0 a1 a2 a3 a4 a5 a6 = k κ a1 a2 a3 a4 a5 a6)
    (h1 : ∀ a a1 a2 a3 a4 a5 a6, Rel a a1 a2 a3 a4 a5 a6 → ∃ ch a' b1 b2 b3 b4 b5 b6, (∀ κ rc, B κ rc 1 a1 a2 a3 a4 a5 a6 = rc (b01 ch) b1 b2 b3 b4 b5 b6) ∧ (ch = true → Rel a' b1 b2 b3 b4 b5 b6 ∧ m a' < m a) ∧ (ch = false → Fin a' b1 b2 b3 b4 b5 b6))
    (N : Nat) (a : A) (a1 : A1) (a2 : A2) (a3 : A3) (a4 : A4) (a5 : A5) (a6 : A6) (hR : Rel a a1 a2 a3 a4 a5 a6) (hm : m a ≤ 900) (hN : 2000 < N) : ∃ a b1 b2 b3 b4 b5 b6, Fin a b1 b2 b3 b4 b5 b6 ∧ ∀ κ, itr7 (B κ) N 1 a1 a2 a3 a4 a5 a6 = k κ b1 b2 b3 b4 b5 b6 := by
  refine vlq7 (B := B) (fun j f a1 a2 a3 a4 a5 a6 => (f = 1 ∧ ∃ a, Rel a a1 a2 a3 a4 a5 a6 ∧ j + m a ≤ 900) ∨ (f = 0 ∧ ∃ a, Fin a a1 a2 a3 a4 a5 a6)) (fun o => ∃ a b1 b2 b3 b4 b5 b6, Fin a b1 b2 b3 b4 b5 b6 ∧ ∀ κ, o κ = k κ b1 b2 b3 b4 b5 b6) 950 ?_ ?_ N 1 a1 a2 a3 a4 a5 a6 (by omega) (Or.inl ⟨rfl, a, hR, by omega⟩)
  · rintro j f a1 a2 a3 a4 a5 a6 hj (⟨rfl, a, ha, hja⟩ | ⟨rfl, a, ha⟩)
    · obtain ⟨ch, a', b1, b2, b3, b4, b5, b6, e1, e2, e3⟩ := h1 a a1 a2 a3 a4 a5 a6 ha
      refine Or.inl ⟨b01 ch, b1, b2, b3, b4, b5, b6, ?_, e1⟩
      cases ch with
      | true => obtain ⟨x1, x2⟩ := e2 rfl; exact Or.inl ⟨rfl, a', x1, by omega⟩
      | false => exact Or.inr ⟨rfl, a', e3 rfl⟩
    · exact Or.inr ⟨fun κ => k κ a1 a2 a3 a4 a5 a6, ⟨a, a1, a2, a3, a4, a5, a6, ha, fun _ => rfl⟩, fun κ rc => h0 κ rc a1 a2 a3 a4 a5 a6⟩
  · rintro f a1 a2 a3 a4 a5 a6 (⟨rfl, a, ha, hja⟩ | ⟨rfl, a, ha⟩)
    · omega
    · exact ⟨fun κ => k κ a1 a2 a3 a4 a5 a6, ⟨a, a1, a2, a3, a4, a5, a6, ha, fun _ => rfl⟩, fun κ rc => h0 κ rc a1 a2 a3 a4 a5 a6⟩
def mFr (wt : Nat → Nat) (inp : Nat → Nat) (L : Nat) (q : gP) (a : Nat) (v : vW) : vW := foldN (gM wt inp q a v) (L + 1 - a) v
def nFr (wt : Nat → Nat) (inp : Nat → Nat) (L : Nat) (q : gP) (a : Nat) (v : vW) : Bool := chN (eM wt inp q a v) (gM wt inp q a v) (L + 1 - a) v
def mP (wt : Nat → Nat) (inp : Nat → Nat) (L : Nat) (G : List gP) (p : Nat) : vW → vW := foldN (mFr wt inp L (gp G p)) (L + 1)
def nP (wt : Nat → Nat) (inp : Nat → Nat) (L : Nat) (G : List gP) (p : Nat) : vW → Bool := chN (nFr wt inp L (gp G p)) (mFr wt inp L (gp G p)) (L + 1)
theorem foldN_S {α : Type} (f : Nat → α → α) (n : Nat) (a : α) : foldN f (n + 1) a = f n (foldN f n a) := rfl
theorem chN_S {V : Type} (d : Nat → V → Bool) (f : Nat → V → V) (n : Nat) (v : V) : chN d f (n + 1) v = (chN d f n v || d n (foldN f n v)) := rfl
section MRE
variable {rules : Int32} {lefts sizes rights : Nat → Int32} {G : List gP} {wt : Nat → Nat} {cw tm : Nat → Int32} {len : Int32} {I : List Nat}
theorem gM_at {q : gP} {a : Nat} {v0 v : vW} {inp : Nat → Nat} : ∀ k, (∀ d, d < k → foldN (gM wt inp q a v0) k v (rs q.1 a (a + d)) = minW wt (v (rs q.1 a (a + d))) (cov wt inp v0 a q.2 q.2.length (a + d))) ∧ ∀ s, (∀ d, d < k → s ≠ rs q.1 a (a + d)) → foldN (gM wt inp q a v0) k v s = v s
  | 0 => ⟨fun d hd => absurd hd (Nat.not_lt_zero _), fun _ _ => rfl⟩
  | k + 1 => by
    obtain ⟨a1, a2⟩ := gM_at (q := q) (a := a) (v0 := v0) (v := v) (inp := inp) k
    have hf : foldN (gM wt inp q a v0) (k + 1) v = gM wt inp q a v0 k (foldN (gM wt inp q a v0) k v) := rfl
    rw [hf]
    generalize foldN (gM wt inp q a v0) k v = u at *
    unfold gM
    refine ⟨fun d hd => ?_, fun s hs => ?_⟩
    · by_cases e : d = k
      · subst e
        rw [updW_s, a2 _ (fun d' hd' => by unfold rs; omega)]
      · rw [updW_n (by unfold rs; omega)]; exact a1 d (by omega)
    · rw [updW_n (hs k (by omega))]; exact a2 s (fun d hd => hs d (by omega))
theorem good_mFr (hw : wt9 wt) (hG : okG G) {L : Nat} (hL : L ≤ 8) {inp : Nat → Nat} {p a : Nat} (hp : p < G.length) (ha : a ≤ L) : Good wt 648 (RR wt inp L G) (mFr wt inp L (gp G p) a) (nFr wt inp L (gp G p) a) := by
  have h8 := (okG_gp hG hp).1
  refine ⟨fun v Q hQ hv => ?_, fun v hd => ?_, fun v hd => ?_⟩
  · have : ∀ k, k ≤ L + 1 - a → Q (foldN (gM wt inp (gp G p) a v) k v) := by
      intro k
      induction k with
      | zero => intro _; exact hv
      | succ k ih =>
        intro hk
        exact hQ _ v (rs (gp G p).1 a (a + k)) (fun v => cov wt inp v a (gp G p).2 (gp G p).2.length (a + k)) ⟨p, a, a + k, hp, by omega, by omega, rfl, rfl⟩ (ih (by omega)) hv
    exact this _ (Nat.le_refl _)
  all_goals
    have hsw := sweep (eM wt inp (gp G p) a v) (gM wt inp (gp G p) a v) (fun _ => True) (fun u => smN (fun s => ky wt (u s)) 648) (L + 1 - a) (fun _ _ _ _ => trivial)
      (fun d u hd _ => smN_le 648 (fun s _ => by
        unfold gM
        by_cases e : s = rs (gp G p).1 a (a + d)
        · subst e; rw [updW_s]; exact minW_le_l _ _ _
        · rw [updW_n e]; exact Nat.le_refl _))
      (fun d u hd _ he => by
        have he := of_decide_eq_true he
        refine smN_lt 648 (rs (gp G p).1 a (a + d)) (fun s _ => ?_) (rs_lt h8 (by omega) (by omega)) ?_
        · unfold gM
          by_cases e : s = rs (gp G p).1 a (a + d)
          · subst e; rw [updW_s]; exact minW_le_l _ _ _
          · rw [updW_n e]; exact Nat.le_refl _
        · unfold gM
          rw [updW_s, minW_eq_lt he]; exact he)
      (fun d u hd _ he => by
        have he := of_decide_eq_false he
        unfold gM
        rw [minW_eq_ge he, updW_same]) v trivial (L + 1 - a) (Nat.le_refl _)
  · have hlt := hsw.2.2.1 hd
    refine Classical.byContradiction fun hno => ?_
    have := smN_le (f := fun s => ky wt (v s)) (g := fun s => ky wt (foldN (gM wt inp (gp G p) a v) (L + 1 - a) v s)) 648 (fun s hs => Nat.le_of_not_lt fun hl => hno (Exists.intro s (And.intro hs hl)))
    omega
  · exact (hsw.2.2.2 hd).1
theorem sweep_M (hw : wt9 wt) (hG : okG G) {L : Nat} (hL : L ≤ 8) {inp : Nat → Nat} : ∃ m : vW → Nat, (∀ v, m v ≤ 648) ∧ ∀ v, upR wt 648 (RR wt inp L G) v → upR wt 648 (RR wt inp L G) (foldN (mP wt inp L G) G.length v) ∧ (chN (nP wt inp L G) (mP wt inp L G) G.length v = true → m (foldN (mP wt inp L G) G.length v) < m v) ∧ (chN (nP wt inp L G) (mP wt inp L G) G.length v = false → foldN (mP wt inp L G) G.length v = v ∧ clR wt (RR wt inp L G) v) := by
  have hR := okR_RR (inp := inp) hw hL hG
  have hgP : ∀ p, p < G.length → Good wt 648 (RR wt inp L G) (mP wt inp L G p) (nP wt inp L G p) := fun p hp => good_fold (L + 1) (fun a ha => good_mFr (a := a) hw hG hL hp (Nat.le_of_lt_succ ha))
  obtain ⟨m, h1, h2⟩ := least_sweep (f := foldN (mP wt inp L G) G.length) (d := chN (nP wt inp L G) (mP wt inp L G) G.length) hw hR (b := fun _ => wNo) (upR_no hw) (good_fold G.length hgP) (by
    intro s ev hr v hv
    have hr0 := hr
    obtain ⟨p, a, b, hp, hab, hb, rfl, rfl⟩ := hr
    refine cov_fold hR G.length hgP p hp (rs (gp G p).1 a b) (fun v => cov wt inp v a (gp G p).2 (gp G p).2.length b) hr0 (fun v hv => ?_) v hv
    refine cov_fold (d := nFr wt inp L (gp G p)) hR (L + 1) (fun a ha => good_mFr (a := a) hw hG hL hp (Nat.le_of_lt_succ ha)) a (by omega) (rs (gp G p).1 a b) (fun v => cov wt inp v a (gp G p).2 (gp G p).2.length b) hr0 (fun v _ => ?_) v hv
    unfold mFr
    have := (gM_at (wt := wt) (q := gp G p) (a := a) (v0 := v) (v := v) (inp := inp) (L + 1 - a)).1 (b - a) (by omega)
    have e : a + (b - a) = b := by omega
    rw [e] at this
    rw [this]; exact minW_le_r _ _ _)
  exact ⟨m, h1, fun v hv => (h2 v (leV_no hw v) hv).2⟩
theorem m_repP (hM : RM rules lefts sizes rights G) (hG : okG G) (hI : IC tm len I) (hL : I.length ≤ 8) (hW : WC cw wt) {p : Nat} (hp : p < G.length) {bests bl trial partly pl : Nat → Int32} {tl : Int32} {B : vW} (hB : SV bests bl B 0 648) (c : Bool) {N : Nat} (hN : 100 < N) : ∃ be' bl' tr' tl' pt' pl', (∀ k53, itr8 (bX12_repair_54 N lefts sizes rights tm len cw (nI p) k53) N (b01 c) 0 trial tl bests bl partly pl = k53 (b01 (c || nP wt (sy I) I.length G p B)) tr' tl' be' bl' pt' pl') ∧ SV be' bl' (mP wt (sy I) I.length G p B) 0 648 := by
  unfold nP mP
  refine vlq8 (B := fun k53 => bX12_repair_54 N lefts sizes rights tm len cw (nI p) k53) (fun j f ix tr tl be bl pt pl => ix = nI j ∧ j ≤ I.length + 1 ∧ f = b01 (c || chN (nFr wt (sy I) I.length (gp G p)) (mFr wt (sy I) I.length (gp G p)) j B) ∧ SV be bl (foldN (mFr wt (sy I) I.length (gp G p)) j B) 0 648) (fun r => ∃ be' bl' tr' tl' pt' pl', (∀ k53, r k53 = k53 (b01 (c || chN (nFr wt (sy I) I.length (gp G p)) (mFr wt (sy I) I.length (gp G p)) (I.length + 1) B)) tr' tl' be' bl' pt' pl') ∧ SV be' bl' (foldN (mFr wt (sy I) I.length (gp G p)) (I.length + 1) B) 0 648) (I.length + 1) ?_ ?_ N (b01 c) 0 trial tl bests bl partly pl (by omega) ⟨rfl, Nat.zero_le _, by simp [chN], hB⟩
  · rintro j f ix tr tl be bl pt pl hj ⟨rfl, _, rfl, S1⟩
    left
    have hfs : foldN (mFr wt (sy I) I.length (gp G p)) (j + 1) B = mFr wt (sy I) I.length (gp G p) j (foldN (mFr wt (sy I) I.length (gp G p)) j B) := rfl
    have hcs : (c || chN (nFr wt (sy I) I.length (gp G p)) (mFr wt (sy I) I.length (gp G p)) (j + 1) B) = ((c || chN (nFr wt (sy I) I.length (gp G p)) (mFr wt (sy I) I.length (gp G p)) j B) || nFr wt (sy I) I.length (gp G p) j (foldN (mFr wt (sy I) I.length (gp G p)) j B)) := by
      rw [Bool.or_assoc]; rfl
    rw [hcs, hfs]
    generalize foldN (mFr wt (sy I) I.length (gp G p)) j B = u at *
    generalize (c || chN (nFr wt (sy I) I.length (gp G p)) (mFr wt (sy I) I.length (gp G p)) j B) = c1 at *
    obtain ⟨be', bl', tr', tl', pt', pl', e, S2⟩ := m_mends hM hG hI hL hW hp (show j ≤ I.length by omega) (trial := tr) (tl := tl) (partly := pt) (pl := pl) S1 hN
    have hn : chN (eM wt (sy I) (gp G p) j u) (gM wt (sy I) (gp G p) j u) (I.length + 1 - j) u = nFr wt (sy I) I.length (gp G p) j u := rfl
    have hm : foldN (gM wt (sy I) (gp G p) j u) (I.length + 1 - j) u = mFr wt (sy I) I.length (gp G p) j u := rfl
    rw [hn] at e
    rw [hm] at S2
    generalize nFr wt (sy I) I.length (gp G p) j u = d at *
    refine ⟨b01 (c1 || d), nI (j + 1), tr', tl', be', bl', pt', pl', ⟨rfl, by omega, rfl, S2⟩, fun k53 rc => ?_⟩
    simp only [bX12_repair_54]
    rw [hI.1, if_neg (nI_nlt (by omega) (by omega)), ← hI.1, e]
    simp only [bd7, obs, jn_, lt_, nI_1]
    rw [fl_or (F := fun z => rc z (nI (j + 1)) tr' tl' be' bl' pt' pl')]
  · rintro f ix tr tl be bl pt pl ⟨rfl, _, rfl, S1⟩
    refine ⟨_, ⟨be, bl, tr, tl, pt, pl, fun _ => rfl, S1⟩, fun k53 rc => ?_⟩
    simp only [bX12_repair_54]
    rw [hI.1, if_pos (nI_lt (by omega) (by omega))]
theorem m_repAll (hM : RM rules lefts sizes rights G) (hG : okG G) (hI : IC tm len I) (hL : I.length ≤ 8) (hW : WC cw wt) {bests bl trial partly pl : Nat → Int32} {tl : Int32} {B : vW} (hB : SV bests bl B 0 648) {N : Nat} (hN : 100 < N) : ∃ be' bl' tr' tl' pt' pl', (∀ k35, itr8 (bX12_repair_44 N rules lefts sizes rights tm len cw k35) N 0 0 trial tl bests bl partly pl = k35 (b01 (chN (nP wt (sy I) I.length G) (mP wt (sy I) I.length G) G.length B)) tr' tl' be' bl' pt' pl') ∧ SV be' bl' (foldN (mP wt (sy I) I.length G) G.length B) 0 648 := by
  have hl := hG.1
  refine vlq8 (B := fun k35 => bX12_repair_44 N rules lefts sizes rights tm len cw k35) (fun j f ix tr tl be bl pt pl => ix = nI j ∧ j ≤ G.length ∧ f = b01 (chN (nP wt (sy I) I.length G) (mP wt (sy I) I.length G) j B) ∧ SV be bl (foldN (mP wt (sy I) I.length G) j B) 0 648) (fun r => ∃ be' bl' tr' tl' pt' pl', (∀ k35, r k35 = k35 (b01 (chN (nP wt (sy I) I.length G) (mP wt (sy I) I.length G) G.length B)) tr' tl' be' bl' pt' pl') ∧ SV be' bl' (foldN (mP wt (sy I) I.length G) G.length B) 0 648) G.length ?_ ?_ N 0 0 trial tl bests bl partly pl (by omega) ⟨rfl, Nat.zero_le _, rfl, hB⟩
  · rintro j f ix tr tl be bl pt pl hj ⟨rfl, _, rfl, S1⟩
    left
    have hfs : foldN (mP wt (sy I) I.length G) (j + 1) B = mP wt (sy I) I.length G j (foldN (mP wt (sy I) I.length G) j B) := foldN_S _ _ _
    have hcs : chN (nP wt (sy I) I.length G) (mP wt (sy I) I.length G) (j + 1) B = (chN (nP wt (sy I) I.length G) (mP wt (sy I) I.length G) j B || nP wt (sy I) I.length G j (foldN (mP wt (sy I) I.length G) j B)) := chN_S _ _ _ _
    rw [hcs, hfs]
    generalize chN (nP wt (sy I) I.length G) (mP wt (sy I) I.length G) j B = c1 at *
    generalize foldN (mP wt (sy I) I.length G) j B = u at *
    obtain ⟨be', bl', tr', tl', pt', pl', e, S2⟩ := m_repP hM hG hI hL hW hj (trial := tr) (tl := tl) (partly := pt) (pl := pl) S1 c1 hN
    generalize nP wt (sy I) I.length G j u = d at *
    refine ⟨b01 (c1 || d), nI (j + 1), tr', tl', be', bl', pt', pl', ⟨rfl, by omega, rfl, S2⟩, fun k35 rc => ?_⟩
    simp only [bX12_repair_44]
    rw [hM.1, if_neg (nI_ge hj (by omega))]
    simp only [jn7]
    rw [e]
    simp only [lt_, nI_1]
  · rintro f ix tr tl be bl pt pl ⟨rfl, _, rfl, S1⟩
    refine ⟨_, ⟨be, bl, tr, tl, pt, pl, fun _ => rfl, S1⟩, fun k35 rc => ?_⟩
    simp only [bX12_repair_44]
    rw [hM.1, if_pos (Int32.le_refl _)]
theorem m_repInit (bl : Nat → Int32) {N : Nat} (hN : 1000 < N) : ∃ bl', (∀ k95, itr2 (bX12_repair_14 k95) N 0 bl = k95 bl') ∧ ∀ s, s < 648 → bl' s = -1 := by
  refine vlq2 (B := fun k95 => bX12_repair_14 k95) (fun j i q => i = nI j ∧ j ≤ 648 ∧ ∀ s, s < j → q s = -1) (fun r => ∃ bl', (∀ k95, r k95 = k95 bl') ∧ ∀ s, s < 648 → bl' s = -1) 648 ?_ ?_ N 0 bl (by omega) ⟨rfl, by omega, fun s hs => absurd hs (Nat.not_lt_zero _)⟩
  · rintro j i q hj ⟨rfl, _, h1⟩
    left
    refine ⟨nI (j + 1), upd q j (-1), ⟨rfl, by omega, fun s hs => ?_⟩, fun k95 rc => ?_⟩
    · by_cases e : s = j
      · subst e; exact pk_us
      · rw [pk_un e]; exact h1 s (by omega)
    · simp only [bX12_repair_14]
      rw [if_neg (nleL 648 648 hj), as_ok hj]
      simp only [obs, lt_, nI_1]
  · rintro i q ⟨rfl, _, h1⟩
    refine ⟨_, ⟨q, fun _ => rfl, h1⟩, fun k95 rc => ?_⟩
    simp only [bX12_repair_14]
    rw [if_pos (by decide)]
theorem m_repWhile (hM : RM rules lefts sizes rights G) (hG : okG G) (hI : IC tm len I) (hL : I.length ≤ 8) (hW : WC cw wt) {bests bl trial partly pl : Nat → Int32} {tl : Int32} (hB : SV bests bl (fun _ => wNo) 0 648) {N : Nat} (hN : 2000 < N) : ∃ v tr' tl' be' bl' pt' pl', (SV be' bl' v 0 648 ∧ RepOK wt I G v) ∧ ∀ k19, itr7 (bX12_repair_36 N rules lefts sizes rights tm len cw k19) N 1 trial tl bests bl partly pl = k19 tr' tl' be' bl' pt' pl' := by
  have hw := WC_9 hW
  obtain ⟨m, hm1, hm2⟩ := sweep_M (inp := sy I) hw hG hL
  refine whq7 (B := fun k19 => bX12_repair_36 N rules lefts sizes rights tm len cw k19) (k := fun k19 => k19) (fun (v : vW) tr tl be bl pt pl => upR wt 648 (RR wt (sy I) I.length G) v ∧ SV be bl v 0 648) (fun v tr tl be bl pt pl => SV be bl v 0 648 ∧ RepOK wt I G v) m ?_ ?_ N (fun _ => wNo) trial tl bests bl partly pl ⟨upR_no hw, hB⟩ (by have := hm1 (fun _ => wNo); omega) hN
  · intro k19 rc a1 a2 a3 a4 a5 a6
    simp only [bX12_repair_36, if_true]
  · rintro v tr tl be bl pt pl ⟨hup, S1⟩
    obtain ⟨u1, u2, u3⟩ := hm2 v hup
    obtain ⟨be', bl', tr', tl', pt', pl', e, S2⟩ := m_repAll hM hG hI hL hW (trial := tr) (tl := tl) (partly := pt) (pl := pl) S1 (show 100 < N by omega)
    refine ⟨chN (nP wt (sy I) I.length G) (mP wt (sy I) I.length G) G.length v, foldN (mP wt (sy I) I.length G) G.length v, tr', tl', be', bl', pt', pl', fun k19 rc => ?_, fun hch => ⟨⟨u1, S2⟩, u2 hch⟩, fun hch => ?_⟩
    · simp only [bX12_repair_36]
      rw [if_neg (by decide)]
      simp only [jn7, e]
    · obtain ⟨x1, x2⟩ := u3 hch
      rw [x1] at S2 ⊢
      exact ⟨S2, x2, hup⟩
theorem m_repCopy {be rp : Nat → Int32} {u : List Nat} (hu : okW (some u)) {L : Nat} (hL : L ≤ 8) (hr : ∀ k, k < u.length → be (40 * L + k) = nI (sy u k)) {N : Nat} (hN : 50 < N) : ∃ rp', (∀ k11, itr2 (bX12_repair_126 (nI L) be (nI u.length) k11) N 0 rp = k11 rp') ∧ ∀ k, k < u.length → rp' k = nI (sy u k) := by
  have h40 := ok40 hu
  refine vlq2 (B := fun k11 => bX12_repair_126 (nI L) be (nI u.length) k11) (fun j i q => i = nI j ∧ j ≤ u.length ∧ ∀ k, k < j → q k = nI (sy u k)) (fun r => ∃ rp', (∀ k11, r k11 = k11 rp') ∧ ∀ k, k < u.length → rp' k = nI (sy u k)) u.length ?_ ?_ N 0 rp (by omega) ⟨rfl, Nat.zero_le _, fun s hs => absurd hs (Nat.not_lt_zero _)⟩
  · rintro j i q hj ⟨rfl, _, h1⟩
    left
    refine ⟨nI (j + 1), upd q j (nI (sy u j)), ⟨rfl, by omega, fun s hs => ?_⟩, fun k11 rc => ?_⟩
    · by_cases e : s = j
      · subst e; exact pk_us
      · rw [pk_un e]; exact h1 s (by omega)
    · have e40 : (40 : Int32) * nI L = nI (40 * L) := pk_mul 40 _
      simp only [bX12_repair_126]
      rw [if_neg (nI_ge hj (by omega)), e40, nI_add, ag_ok (show 40 * L + j < 25920 by omega)]
      simp only [obs, hr j hj, as_ok (show j < 40 by omega), lt_, nI_1]
  · rintro i q ⟨rfl, _, h1⟩
    refine ⟨_, ⟨q, fun _ => rfl, h1⟩, fun k11 rc => ?_⟩
    simp only [bX12_repair_126]
    rw [if_pos (Int32.le_refl _)]
theorem m_repair (hM : RM rules lefts sizes rights G) (hG : okG G) (hI : IC tm len I) (hL : I.length ≤ 8) (hW : WC cw wt) (trial : Nat → Int32) (tl : Int32) (bests bl partly pl rp : Nat → Int32) (rl : Int32) {N : Nat} (hN : 2000 < N) : ∃ v tr' tl' be' bl' pt' pl', RepOK wt I G v ∧ (((v (rs 0 0 I.length)).1 = none ∧ fX12_repair N rules lefts sizes rights trial tl tm len cw bests bl partly pl rp rl = some (-2, tr', tl', be', bl', pt', pl', rp, rl)) ∨ ∃ u rp', (v (rs 0 0 I.length)).1 = some u ∧ fX12_repair N rules lefts sizes rights trial tl tm len cw bests bl partly pl rp rl = some (nI u.length - nI I.length, tr', tl', be', bl', pt', pl', rp', nI u.length) ∧ ∀ k, k < u.length → rp' k = nI (sy u k)) := by
  obtain ⟨bl0, e0, q0⟩ := m_repInit bl (show 1000 < N by omega)
  have S0 : SV bests bl0 (fun _ => wNo) 0 648 := fun s _ hs => ⟨q0 s hs, fun u hu => by simp [wNo] at hu⟩
  obtain ⟨v, tr', tl', be', bl', pt', pl', ⟨S1, hok⟩, e1⟩ := m_repWhile hM hG hI hL hW (trial := trial) (tl := tl) (partly := partly) (pl := pl) S0 hN
  have hrs : rs 0 0 I.length = I.length := by unfold rs; omega
  have hs1 := S1 (rs 0 0 I.length) (Nat.zero_le _) (rs_lt (by decide) (by decide) (by omega))
  have hokv := (v (rs 0 0 I.length)).2
  refine ⟨v, tr', tl', be', bl', pt', pl', hok, ?_⟩
  have hrun : fX12_repair N rules lefts sizes rights trial tl tm len cw bests bl partly pl rp rl = if 0 ≤ bl' I.length then itr2 (bX12_repair_126 (nI I.length) be' (bl' I.length) fun v10 => some (bl' I.length - nI I.length, tr', tl', be', bl', pt', pl', v10, bl' I.length)) N 0 rp else some (-2, tr', tl', be', bl', pt', pl', rp, rl) := by
    have hle : len ≤ 8 := by rw [hI.1]; exact nI_le (b := 8) hL (by decide)
    simp only [fX12_repair, jn_, jn6]
    rw [if_pos hle, e0, e1, hI.1, ag_ok (show I.length < 648 by omega)]
    simp only [obs]
  rw [hrs] at hs1 hokv ⊢
  cases hv : (v I.length).1 with
  | none =>
    have hbl : bl' I.length = -1 := by rw [hs1.1, hv]; rfl
    exact Or.inl ⟨rfl, by rw [hrun, hbl, if_neg (by decide)]⟩
  | some u =>
    rw [hv] at hokv
    have h40 := ok40 hokv
    have hbl : bl' I.length = nI u.length := by rw [hs1.1, hv]; rfl
    obtain ⟨rp', r1, r2⟩ := m_repCopy (rp := rp) hokv hL (hs1.2 u hv) (show 50 < N by omega)
    exact Or.inr ⟨u, rp', rfl, by rw [hrun, hbl, if_pos (nI_pos' (by omega)), r1], r2⟩
end MRE
theorem RepOK_uniq {wt : Nat → Nat} (hw : wt9 wt) {I : List Nat} {G : List gP} {v w : vW} (h1 : RepOK wt I G v) (h2 : RepOK wt I G w) : ∀ s, s < 648 → v s = w s := least_uniq hw h1.1 h1.2 h2.1 h2.2
