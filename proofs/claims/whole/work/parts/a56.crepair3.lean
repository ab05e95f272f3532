/-! THE CLASS'S repair: findWords, findLeastInsertions -/
def fR (wt : Nat → Nat) (inp : Nat → Nat) (G : List gP) (a b p : Nat) (v : vW) : vW := updW v (rs (gp G p).1 a b) (minW wt (v (rs (gp G p).1 a b)) (cov wt inp v a (gp G p).2 (gp G p).2.length b))
def dR (wt : Nat → Nat) (inp : Nat → Nat) (G : List gP) (a b p : Nat) (v : vW) : Bool := decide (ky wt (cov wt inp v a (gp G p).2 (gp G p).2.length b) < ky wt (v (rs (gp G p).1 a b)))
def RLo (wt : Nat → Nat) (inp : Nat → Nat) (G : List gP) (a b : Nat) (b0 : vW) : RuleS := fun s ev => (s < 648 ∧ ev = fun _ => b0 s) ∨ ∃ p, p < G.length ∧ s = rs (gp G p).1 a b ∧ ev = fun v => cov wt inp v a (gp G p).2 (gp G p).2.length b
section CR3
variable {wt : Nat → Nat} {I : List Nat} {G : List gP} {K : Int32 × Int64 × Int64}
theorem okR_RL (hw : wt9 wt) (hG : okG G) {a b : Nat} (ha : a < 9) (hb : b < 9) (b0 : vW) : okR wt 648 (RLo wt (sy I) G a b b0) := by
  rintro s ev (⟨hs, rfl⟩ | ⟨p, hp, rfl, rfl⟩)
  · exact ⟨hs, nice_const _ _ _⟩
  · have hq := okG_gp hG hp
    exact ⟨rs_lt hq.1 ha hb, nice_cov hw (okP18 hq) ha _ (Nat.le_refl _) b hb⟩
theorem sweep_L (hw : wt9 wt) (hG : okG G) {a b : Nat} (ha : a < 9) (hb : b < 9) (b0 : vW) : ∃ m : vW → Nat, (∀ v, m v ≤ 648) ∧ ∀ v, leV wt 648 v b0 → upR wt 648 (RLo wt (sy I) G a b b0) v → leV wt 648 (foldN (fR wt (sy I) G a b) G.length v) b0 ∧ upR wt 648 (RLo wt (sy I) G a b b0) (foldN (fR wt (sy I) G a b) G.length v) ∧ (chN (dR wt (sy I) G a b) (fR wt (sy I) G a b) G.length v = true → m (foldN (fR wt (sy I) G a b) G.length v) < m v) ∧ (chN (dR wt (sy I) G a b) (fR wt (sy I) G a b) G.length v = false → foldN (fR wt (sy I) G a b) G.length v = v ∧ clR wt (RLo wt (sy I) G a b b0) v) := by
  have hR := okR_RL (I := I) hw hG ha hb b0
  have hg : ∀ p, p < G.length → Good wt 648 (RLo wt (sy I) G a b b0) (fR wt (sy I) G a b p) (dR wt (sy I) G a b p) := fun p hp => good_lower hR (ev := fun v => cov wt (sy I) v a (gp G p).2 (gp G p).2.length b) (Or.inr ⟨p, hp, rfl, rfl⟩)
  have hbU : upR wt 648 (RLo wt (sy I) G a b b0) b0 := fun w hw s hs => hw s (fun _ => b0 s) (Or.inl ⟨hs, rfl⟩)
  refine least_sweep (f := foldN (fR wt (sy I) G a b) G.length) (d := chN (dR wt (sy I) G a b) (fR wt (sy I) G a b) G.length) hw hR hbU (good_fold G.length hg) ?_
  intro s ev hr v hv
  rcases hr with ⟨hs, rfl⟩ | ⟨p, hp, rfl, rfl⟩
  · exact Nat.le_trans (good_le (good_fold G.length hg) v s hs) (hv s hs)
  · refine cov_fold hR G.length hg p hp _ _ (Or.inr ⟨p, hp, rfl, rfl⟩) (fun v _ => ?_) v hv
    unfold fR
    rw [updW_s]; exact minW_le_r _ _ _
theorem up_R (hw : wt9 wt) (hG : okG G) (hL : I.length ≤ 8) {a b : Nat} (hab : a ≤ b) (hb : b ≤ I.length) {v : vW} (hv : upR wt 648 (RR wt (sy I) I.length G) v) : upR wt 648 (RR wt (sy I) I.length G) (foldN (fR wt (sy I) G a b) G.length v) := by
  have hR := okR_RR (inp := sy I) hw hL hG
  have hg : ∀ p, p < G.length → Good wt 648 (RR wt (sy I) I.length G) (fR wt (sy I) G a b p) (dR wt (sy I) G a b p) := fun p hp => good_lower hR (ev := fun v => cov wt (sy I) v a (gp G p).2 (gp G p).2.length b) ⟨p, a, b, hp, hab, hb, rfl, rfl⟩
  exact (good_fold G.length hg).1 v _ (stab_up hR) hv
theorem off_R {a b : Nat} {i : Nat} (hi : ∀ n, n < 8 → i ≠ rs n a b) (hG : okG G) (v : vW) : ∀ k, k ≤ G.length → foldN (fR wt (sy I) G a b) k v i = v i
  | 0, _ => rfl
  | k + 1, hk => by
    show fR wt (sy I) G a b k (foldN (fR wt (sy I) G a b) k v) i = _
    unfold fR
    rw [updW_n (hi _ (okG_gp hG (by omega)).1)]
    exact off_R hi hG v k (by omega)
theorem c_wordSweep {codes : Nat → Int32} {count : Int32} (hc : RC codes count G) (hw : wt9 wt) (hG : okG G) {a b : Nat} (hab : a ≤ b) (hb : b < 9) {S : Nat → Nat → Prop} (hS : ∀ m e, a ≤ m → m ≤ e → e ≤ b → S m e) {c : Nat → Int32} {h l : Nat → Int64} {ω : Nat → Option wW} {v : vW} (R : WO wt K c h l ω) (hR : RW I ω v S) {N : Nat} (hN : 30 < N) : ∃ (o : wsT) (ω' : Nat → Option wW), (∀ k22, itr5 (bX5_findWords_58 N (nI a) (nI b) codes count k22) N 0 0 c h l = k22 (b01 (chN (dR wt (sy I) G a b) (fR wt (sy I) G a b) G.length v)) o.1 o.2.1 o.2.2) ∧ WO wt K o.1 o.2.1 o.2.2 ω' ∧ RW I ω' (foldN (fR wt (sy I) G a b) G.length v) S := by
  have hl := hG.1
  refine vlq5 (B := fun k22 => bX5_findWords_58 N (nI a) (nI b) codes count k22) (fun j f i c h l => i = nI j ∧ j ≤ G.length ∧ f = b01 (chN (dR wt (sy I) G a b) (fR wt (sy I) G a b) j v) ∧ ∃ ω', WO wt K c h l ω' ∧ RW I ω' (foldN (fR wt (sy I) G a b) j v) S) (fun r => ∃ (o : wsT) (ω' : Nat → Option wW), (∀ k22, r k22 = k22 (b01 (chN (dR wt (sy I) G a b) (fR wt (sy I) G a b) G.length v)) o.1 o.2.1 o.2.2) ∧ WO wt K o.1 o.2.1 o.2.2 ω' ∧ RW I ω' (foldN (fR wt (sy I) G a b) G.length v) S) G.length ?_ ?_ N 0 0 c h l (by omega) ⟨rfl, Nat.zero_le _, rfl, ω, R, hR⟩
  · rintro j f i c h l hj ⟨rfl, _, rfl, ω1, R1, W1⟩
    left
    have hq := okG_gp hG hj
    have hfs : foldN (fR wt (sy I) G a b) (j + 1) v = fR wt (sy I) G a b j (foldN (fR wt (sy I) G a b) j v) := rfl
    have hcs : chN (dR wt (sy I) G a b) (fR wt (sy I) G a b) (j + 1) v = (chN (dR wt (sy I) G a b) (fR wt (sy I) G a b) j v || dR wt (sy I) G a b j (foldN (fR wt (sy I) G a b) j v)) := rfl
    rw [hcs, hfs]
    generalize foldN (fR wt (sy I) G a b) j v = u at *
    obtain ⟨o, ω2, e, R2, F2⟩ := c_lowerBy hw hq hab hb (I := I) (v := u) R1 (fun s hs m e h1 h2 h3 => (W1 m e (hS m e h1 h2 h3)).2.2 s hs) hN
    have hd : decide (ky wt (cov wt (sy I) u a (gp G j).2 (gp G j).2.length b) < ky wt (u (rs (gp G j).1 a b))) = dR wt (sy I) G a b j u := rfl
    rw [hd] at e
    generalize dR wt (sy I) G a b j u = d at *
    generalize chN (dR wt (sy I) G a b) (fR wt (sy I) G a b) j v = ch at *
    refine ⟨b01 (ch || d), nI (j + 1), o.1, o.2.1, o.2.2, ⟨rfl, by omega, rfl, ω2, R2, ?_⟩, fun k22 rc => ?_⟩
    · have := RW_upd W1 hq.1 (show a < 9 by omega) hb (minW wt (u (rs (gp G j).1 a b)) (cov wt (sy I) u a (gp G j).2 (gp G j).2.length b))
      exact RW_fr this (fun x hx => F2 x hx)
    · simp only [bX5_findWords_58]
      rw [hc.1, if_neg (nI_ge hj (by omega)), ag_ok (show j < 24 by omega)]
      simp only [obs, hc.2 j hj, e, bd4, jn_, lt_, nI_1]
      rw [fl_or (F := fun z => rc z (nI (j + 1)) o.1 o.2.1 o.2.2)]
  · rintro f i c h l ⟨rfl, _, rfl, ω1, R1, W1⟩
    refine ⟨_, ⟨(c, h, l), ω1, fun _ => rfl, R1, W1⟩, fun k22 rc => ?_⟩
    simp only [bX5_findWords_58]
    rw [hc.1, if_pos (Int32.le_refl _)]
/-- the stretches that are done when from a on those up to b are -/
def Sd (L a b : Nat) (m e : Nat) : Prop := m ≤ e ∧ e ≤ L ∧ (a < m ∨ (m = a ∧ e < b))
def ClS (wt : Nat → Nat) (I : List Nat) (G : List gP) (v : vW) (S : Nat → Nat → Prop) : Prop := ∀ m e, S m e → ∀ p, p < G.length → ky wt (v (rs (gp G p).1 m e)) ≤ ky wt (cov wt (sy I) v m (gp G p).2 (gp G p).2.length e)
/-- what stands when the stretches of Sd are done -/
def RepI (wt : Nat → Nat) (I : List Nat) (G : List gP) (K : Int32 × Int64 × Int64) (a b : Nat) (c : Nat → Int32) (h l : Nat → Int64) : Prop := ∃ ω v, WO wt K c h l ω ∧ RW I ω v (Sd I.length a b) ∧ upR wt 648 (RR wt (sy I) I.length G) v ∧ ClS wt I G v (Sd I.length a b) ∧ ∀ m e, m < 9 → e < 9 → ¬ Sd I.length a b m e → ∀ n, v (rs n m e) = wNo
theorem c_findWords {codes tm cw : Nat → Int32} {count len : Int32} (hc : RC codes count G) (hG : okG G) (hI : IC tm len I) (hW : WC cw wt) (hL : I.length ≤ 8) {a b : Nat} (hab : a ≤ b) (hb : b ≤ I.length) {c : Nat → Int32} {h l : Nat → Int64} (hP : RepI wt I G K a b c h l) {N : Nat} (hN : 2000 < N) : ∃ o : wsT, fX5_findWords N codes count tm len cw c h l (nI a) (nI b) = some o ∧ RepI wt I G K a (b + 1) o.1 o.2.1 o.2.2 := by
  have hw := WC_9 hW
  obtain ⟨ω, v, R, hRW, hup, hcl, hno⟩ := hP
  have hab9 : a < 9 ∧ b < 9 := by omega
  obtain ⟨o1, ω1, e1, R1, f1, f2⟩ := c_putTerminals hI hW hab hb hL (v := v) R (show 30 < N by omega)
  obtain ⟨o2, ω2, e2, R2, g1, g2⟩ := c_putNones hab9.1 hab9.2 R1 (show 30 < N by omega)
  have hnd : ¬ Sd I.length a b a b := by unfold Sd; omega
  -- all stretches up to this one
  have W2 : RW I ω2 v (Sd I.length a (b + 1)) := by
    intro m e hme
    have hm9 : m < 9 ∧ e < 9 := by unfold Sd at hme; omega
    refine ⟨hm9.1, hm9.2, fun s hs => ?_⟩
    have h18 := okS_lt hs
    by_cases q : m = a ∧ e = b
    · obtain ⟨rfl, rfl⟩ := q
      by_cases h10 : s < 10
      · rw [g2 _ (fun n hn z => by have := wi_inj hab9.2 h18 hab9.2 (show 10 + n < 18 by omega) z; omega)]
        exact f1 s (by rcases hs with z | z <;> omega)
      · have := g1 (s - 10) (by omega)
        have e3 : 10 + (s - 10) = s := by omega
        rw [e3] at this
        rw [this]
        unfold sw
        rw [if_neg h10, hno _ _ hab9.1 hab9.2 hnd]
    · have hme' : Sd I.length a b m e := by unfold Sd at hme ⊢; omega
      rw [g2 _ (fun n hn z => q (by have := wi_inj hm9.2 h18 hab9.2 (show 10 + n < 18 by omega) z; omega)), f2 _ (fun t ht z => q (by have := wi_inj hm9.2 h18 hab9.2 (show t < 18 by omega) z; omega))]
      exact (hRW m e hme').2.2 s hs
  obtain ⟨ms, hm1, hm2⟩ := sweep_L (I := I) hw hG hab9.1 hab9.2 v
  have hr := rounds5 (B := bX5_findWords_41 N (nI a) (nI b) codes count fun v7 v8 v9 => some (v7, v8, v9)) (k := fun v7 v8 v9 => some (v7, v8, v9)) (fun (u : vW) c h l => leV wt 648 u v ∧ upR wt 648 (RLo wt (sy I) G a b v) u ∧ upR wt 648 (RR wt (sy I) I.length G) u ∧ (∀ i, (∀ n, n < 8 → i ≠ rs n a b) → u i = v i) ∧ ∃ ω', WO wt K c h l ω' ∧ RW I ω' u (Sd I.length a (b + 1))) (fun u c h l => clR wt (RLo wt (sy I) G a b v) u ∧ upR wt 648 (RR wt (sy I) I.length G) u ∧ (∀ i, (∀ n, n < 8 → i ≠ rs n a b) → u i = v i) ∧ ∃ ω', WO wt K c h l ω' ∧ RW I ω' u (Sd I.length a (b + 1))) ms ?_ ?_ N v o2.1 o2.2.1 o2.2.2 ⟨leV_rfl v, fun w hw s hs => hw s (fun _ => v s) (Or.inl ⟨hs, rfl⟩), hup, fun _ _ => rfl, ω2, R2, W2⟩ (by have := hm1 v; omega) hN
  · obtain ⟨u, c', h', l', ⟨hclu, hupu, hoff, ω', R', W'⟩, erun⟩ := hr
    refine ⟨(c', h', l'), ?_, ω', u, R', W', hupu, ?_, ?_⟩
    · simp only [fX5_findWords, e1, bd3, obs, jn3]
      rw [e2]
      exact erun
    · intro m e hme p hp
      by_cases q : m = a ∧ e = b
      · obtain ⟨rfl, rfl⟩ := q
        exact hclu (rs (gp G p).1 m e) (fun v => cov wt (sy I) v m (gp G p).2 (gp G p).2.length e) (Or.inr ⟨p, hp, rfl, rfl⟩)
      · have hme' : Sd I.length a b m e := by unfold Sd at hme ⊢; omega
        have hm9 : m < 9 ∧ e < 9 ∧ m ≤ e := by unfold Sd at hme; omega
        have hoff2 : ∀ n m' e', m ≤ m' → m' ≤ e' → e' ≤ e → u (rs n m' e') = v (rs n m' e') := by
          intro n m' e' h1 h2 h3
          refine hoff _ fun n' hn' z => ?_
          have := rs_inj (show m' < 9 by omega) (show e' < 9 by omega) hab9.1 hab9.2 z
          unfold Sd at hme'
          omega
        rw [hoff2 _ m e (Nat.le_refl _) hm9.2.2 (Nat.le_refl _), cov_congr _ _ hm9.2.2 (fun n m' e' h1 h2 h3 => hoff2 n m' e' h1 h2 h3)]
        exact hcl m e hme' p hp
    · intro m e hm he hnd2 n
      have h1 : ¬ Sd I.length a b m e := by unfold Sd at hnd2 ⊢; omega
      rw [hoff _ (fun n' hn' z => by
        have := rs_inj hm he hab9.1 hab9.2 z
        unfold Sd at hnd2
        omega)]
      exact hno m e hm he h1 n
  · intro rc j c h l hj
    simp only [bX5_findWords_41]
    rw [if_neg (nleL 1000 1000 hj), if_true]
  · rintro j u c h l hj ⟨h1, h2, h3, h4, ω3, R3, W3⟩
    obtain ⟨u0, u1, u2, u3⟩ := hm2 u h1 h2
    obtain ⟨o, ω4, e4, R4, W4⟩ := c_wordSweep hc hw hG hab hab9.2 (S := Sd I.length a (b + 1)) (fun m e q1 q2 q3 => by unfold Sd; omega) R3 W3 (show 30 < N by omega)
    have hbody : ∀ rc, bX5_findWords_41 N (nI a) (nI b) codes count (fun v7 v8 v9 => some (v7, v8, v9)) rc 1 (nI j) c h l = itr5 (bX5_findWords_58 N (nI a) (nI b) codes count fun v17 v18 v19 v20 => rc v17 (nI (j + 1)) v18 v19 v20) N 0 0 c h l := by
      intro rc
      simp only [bX5_findWords_41]
      rw [if_neg (nleL 1000 1000 hj), if_neg (by decide)]
      simp only [jn4, lt_, nI_1]
    have up4 := up_R hw hG hL hab hb h3
    have off4 : ∀ i, (∀ n, n < 8 → i ≠ rs n a b) → foldN (fR wt (sy I) G a b) G.length u i = v i := fun i hi => by rw [off_R hi hG u _ (Nat.le_refl _)]; exact h4 i hi
    refine ⟨_, _, o.1, o.2.1, o.2.2, fun rc => by rw [hbody, e4], fun hch => ⟨⟨u0, u1, up4, off4, ω4, R4, W4⟩, u2 hch⟩, fun hch => ?_⟩
    obtain ⟨x1, x2⟩ := u3 hch
    exact ⟨by rw [x1]; exact x2, up4, off4, ω4, R4, W4⟩
/-- all stretches -/
def RepOK (wt : Nat → Nat) (I : List Nat) (G : List gP) (v : vW) : Prop := clR wt (RR wt (sy I) I.length G) v ∧ upR wt 648 (RR wt (sy I) I.length G) v
end CR3
