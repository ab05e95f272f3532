/-! LEAST WORDS: a system of rules (a slot, and what it may be lowered to), the greatest vector that keeps them, and in how many rounds it is reached -/
abbrev vW : Type := Nat → wW
def updW (v : vW) (s : Nat) (x : wW) : vW := fun i => if i = s then x else v i
theorem updW_s {v : vW} {s : Nat} {x : wW} : updW v s x s = x := by unfold updW; rw [if_pos rfl]
theorem updW_n {v : vW} {s i : Nat} {x : wW} (h : i ≠ s) : updW v s x i = v i := by unfold updW; rw [if_neg h]
def leV (wt : Nat → Nat) (n : Nat) (v v' : vW) : Prop := ∀ s, s < n → ky wt (v s) ≤ ky wt (v' s)
def Nice (wt : Nat → Nat) (n : Nat) (ev : vW → wW) : Prop := ∀ v v', leV wt n v v' → ky wt (ev v) ≤ ky wt (ev v') ∧ (ev v = ev v' → ky wt (ev v') < topK → ∃ D : Nat → Prop, (∀ s, s < n → D s → v s = v' s) ∧ ∀ u, leV wt n v u → (∀ s, s < n → D s → u s = v s) → ev u = ev v)
theorem cat_lt_top {wt : Nat → Nat} (hw : wt9 wt) {a b : wW} (h : ky wt (catW a b) < topK) : ky wt a < topK ∧ ky wt b < topK := by
  rw [ky_lt_top hw] at h
  rw [ky_lt_top hw, ky_lt_top hw]
  constructor
  · intro e
    apply h
    show cat a.1 b.1 = none
    rw [e, cat_none_l]
  · intro e
    apply h
    show cat a.1 b.1 = none
    rw [e, cat_none_r]
theorem leV_rfl {wt : Nat → Nat} {n : Nat} (v : vW) : leV wt n v v := fun _ _ => Nat.le_refl _
theorem leV_trans {wt : Nat → Nat} {n : Nat} {u v w : vW} (h1 : leV wt n u v) (h2 : leV wt n v w) : leV wt n u w := fun s hs => Nat.le_trans (h1 s hs) (h2 s hs)
theorem nice_const (wt : Nat → Nat) (n : Nat) (c : wW) : Nice wt n (fun _ => c) := fun _ _ _ => ⟨Nat.le_refl _, fun _ _ => ⟨fun _ => False, fun _ _ h => h.elim, fun _ _ _ => rfl⟩⟩
theorem nice_slot (wt : Nat → Nat) {n s : Nat} (hs : s < n) : Nice wt n (fun v => v s) := fun v v' h => ⟨h s hs, fun e _ => ⟨fun i => i = s, fun i _ ei => by subst ei; exact e, fun u _ hu => hu s hs rfl⟩⟩
theorem nice_cat {wt : Nat → Nat} (hw : wt9 wt) {n : Nat} {f g : vW → wW} (hf : Nice wt n f) (hg : Nice wt n g) : Nice wt n (fun v => catW (f v) (g v)) := by
  intro v v' h
  obtain ⟨f1, f2⟩ := hf v v' h
  obtain ⟨g1, g2⟩ := hg v v' h
  refine ⟨cat_mono hw f1 g1, fun e ht => ?_⟩
  have e' : catW (f v) (g v) = catW (f v') (g v') := e
  obtain ⟨e1, e2⟩ := (cat_le_key hw f1 g1 ht).2 (by rw [e'])
  obtain ⟨t1, t2⟩ := cat_lt_top hw ht
  obtain ⟨D1, d1, u1⟩ := f2 e1 t1
  obtain ⟨D2, d2, u2⟩ := g2 e2 t2
  refine ⟨fun s => D1 s ∨ D2 s, fun s hs hd => ?_, fun u hu hd => ?_⟩
  · rcases hd with hd | hd
    · exact d1 s hs hd
    · exact d2 s hs hd
  · show catW (f u) (g u) = catW (f v) (g v)
    rw [u1 u hu (fun s hs x => hd s hs (Or.inl x)), u2 u hu (fun s hs x => hd s hs (Or.inr x))]
theorem nice_min {wt : Nat → Nat} (hw : wt9 wt) {n : Nat} {f g : vW → wW} (hf : Nice wt n f) (hg : Nice wt n g) : Nice wt n (fun v => minW wt (f v) (g v)) := by
  intro v v' h
  obtain ⟨f1, f2⟩ := hf v v' h
  obtain ⟨g1, g2⟩ := hg v v' h
  refine ⟨by rw [minW_ky, minW_ky]; omega, fun e ht => ?_⟩
  have e' : minW wt (f v) (g v) = minW wt (f v') (g v') := e
  have ek : ky wt (minW wt (f v) (g v)) = ky wt (minW wt (f v') (g v')) := by rw [e']
  rw [minW_ky, minW_ky] at ek
  have ht : ky wt (minW wt (f v') (g v')) < topK := ht
  rw [minW_ky] at ht
  rcases Nat.le_total (ky wt (f v')) (ky wt (g v')) with hm | hm
  · have e1 : f v = f v' := ky_inj hw (by omega)
    obtain ⟨D, d, u1⟩ := f2 e1 (by omega)
    refine ⟨D, d, fun u hu hd => ?_⟩
    have a1 := u1 u hu hd
    have a2 := (hg v u hu).1
    apply ky_inj hw
    show ky wt (minW wt (f u) (g u)) = ky wt (minW wt (f v) (g v))
    rw [minW_ky, minW_ky, a1]
    omega
  · have e1 : g v = g v' := ky_inj hw (by omega)
    obtain ⟨D, d, u1⟩ := g2 e1 (by omega)
    refine ⟨D, d, fun u hu hd => ?_⟩
    have a1 := u1 u hu hd
    have a2 := (hf v u hu).1
    apply ky_inj hw
    show ky wt (minW wt (f u) (g u)) = ky wt (minW wt (f v) (g v))
    rw [minW_ky, minW_ky, a1]
    omega
theorem nice_mono {wt : Nat → Nat} {n : Nat} {f : vW → wW} (hf : Nice wt n f) {v v' : vW} (h : leV wt n v v') : ky wt (f v) ≤ ky wt (f v') := (hf v v' h).1
abbrev RuleS : Type := Nat → (vW → wW) → Prop
def okR (wt : Nat → Nat) (n : Nat) (R : RuleS) : Prop := ∀ s ev, R s ev → s < n ∧ Nice wt n ev
def clR (wt : Nat → Nat) (R : RuleS) (v : vW) : Prop := ∀ s ev, R s ev → ky wt (v s) ≤ ky wt (ev v)
def upR (wt : Nat → Nat) (n : Nat) (R : RuleS) (v : vW) : Prop := ∀ w, clR wt R w → leV wt n w v
def Stab (wt : Nat → Nat) (R : RuleS) (Q : vW → Prop) : Prop := ∀ v v0 s ev, R s ev → Q v → Q v0 → Q (updW v s (minW wt (v s) (ev v0)))
def Reach (wt : Nat → Nat) (R : RuleS) (v v' : vW) : Prop := ∀ Q, Stab wt R Q → Q v → Q v'
theorem reach_rfl {wt : Nat → Nat} {R : RuleS} (v : vW) : Reach wt R v v := fun _ _ h => h
theorem reach_trans {wt : Nat → Nat} {R : RuleS} {u v w : vW} (h1 : Reach wt R u v) (h2 : Reach wt R v w) : Reach wt R u w := fun Q hQ h => h2 Q hQ (h1 Q hQ h)
theorem reach_step {wt : Nat → Nat} {R : RuleS} {v : vW} {s : Nat} {ev : vW → wW} (h : R s ev) : Reach wt R v (updW v s (minW wt (v s) (ev v))) := fun _ hQ hv => hQ v v s ev h hv hv
theorem stab_ge {wt : Nat → Nat} {n : Nat} {R : RuleS} (hR : okR wt n R) {w : vW} (hw : clR wt R w) : Stab wt R (fun u => leV wt n w u) := by
  intro v v0 s ev hr h1 h2 i hi
  obtain ⟨hs, hn⟩ := hR s ev hr
  by_cases e : i = s
  · subst e
    rw [updW_s]
    exact minW_ge (h1 i hi) (Nat.le_trans (hw i ev hr) (nice_mono hn h2))
  · rw [updW_n e]; exact h1 i hi
theorem stab_up {wt : Nat → Nat} {n : Nat} {R : RuleS} (hR : okR wt n R) : Stab wt R (upR wt n R) := fun v v0 s ev hr h1 h2 w hw => stab_ge hR hw v v0 s ev hr (h1 w hw) (h2 w hw)
theorem stab_le {wt : Nat → Nat} {n : Nat} {R : RuleS} (w : vW) : Stab wt R (fun u => leV wt n u w) := by
  intro v v0 s ev hr h1 h2 i hi
  by_cases e : i = s
  · subst e; rw [updW_s]; exact Nat.le_trans (minW_le_l _ _ _) (h1 i hi)
  · rw [updW_n e]; exact h1 i hi
theorem stab_off {wt : Nat → Nat} {n : Nat} {R : RuleS} (hR : okR wt n R) (w : vW) : Stab wt R (fun u => ∀ i, n ≤ i → u i = w i) := by
  intro v v0 s ev hr h1 h2 i hi
  rw [updW_n (by have := (hR s ev hr).1; omega)]; exact h1 i hi
def smN (f : Nat → Nat) : Nat → Nat
  | 0 => 0
  | n + 1 => smN f n + f n
theorem smN_le {f g : Nat → Nat} : ∀ n, (∀ i, i < n → f i ≤ g i) → smN f n ≤ smN g n
  | 0, _ => Nat.le_refl _
  | n + 1, h => by
    have := smN_le n (fun i hi => h i (by omega))
    have := h n (by omega)
    simp only [smN]; omega
theorem smN_lt {f g : Nat → Nat} : ∀ n j, (∀ i, i < n → f i ≤ g i) → j < n → f j < g j → smN f n < smN g n
  | 0, _, _, hj, _ => by omega
  | n + 1, j, h, hj, hl => by
    have h1 := h n (by omega)
    simp only [smN]
    by_cases e : j = n
    · subst e
      have := smN_le j (fun i hi => h i (by omega))
      omega
    · have := smN_lt n j (fun i hi => h i (by omega)) (by omega) hl
      omega
theorem smN_top (f : Nat → Nat) (k : Nat) : ∀ n, (∀ i, i < n → f i ≤ k) → smN f n ≤ n * k
  | 0, _ => by simp [smN]
  | n + 1, h => by
    have := smN_top f k n (fun i hi => h i (by omega))
    have := h n (by omega)
    simp only [smN, Nat.succ_mul]; omega
section LST
variable {wt : Nat → Nat} {n : Nat} {R : RuleS}
theorem least_exist (hw : wt9 wt) (hR : okR wt n R) (b : vW) (st : vW → vW) (hst : ∀ v, Reach wt R v (st v)) (hC : ∀ v, leV wt n v b → ∀ s ev, R s ev → ky wt (st v s) ≤ ky wt (ev v)) : ∀ v, leV wt n v b → ∃ u, Reach wt R v u ∧ clR wt R u := by
  have key : ∀ (k : Nat) (v : vW), leV wt n v b → smN (fun s => ky wt (v s)) n < k → ∃ u, Reach wt R v u ∧ clR wt R u := by
    intro k
    induction k with
    | zero => intro v _ h; omega
    | succ k ih =>
      intro v hvb hk
      by_cases h : ∀ s, s < n → st v s = v s
      · refine ⟨v, reach_rfl v, fun s ev hr => ?_⟩
        have := hC v hvb s ev hr
        rw [h s (hR s ev hr).1] at this
        exact this
      · have : ∃ s, s < n ∧ st v s ≠ v s := Classical.byContradiction fun hno => h fun s hs => Classical.byContradiction fun hne => hno ⟨s, hs, hne⟩
        obtain ⟨s, hs, hne⟩ := this
        have hle : leV wt n (st v) v := hst v _ (stab_le v) (leV_rfl v)
        have hlt := smN_lt (f := fun s => ky wt (st v s)) (g := fun s => ky wt (v s)) n s hle hs (by
          have h1 := hle s hs
          rcases Nat.lt_or_ge (ky wt (st v s)) (ky wt (v s)) with h2 | h2
          · exact h2
          · exact absurd (ky_inj hw (Nat.le_antisymm h1 h2)) hne)
        obtain ⟨u, h1, h2⟩ := ih (st v) (leV_trans hle hvb) (by omega)
        exact ⟨u, reach_trans (hst v) h1, h2⟩
  exact fun v hv => key _ v hv (Nat.lt_succ_self _)
theorem least_prog (hw : wt9 wt) (hR : okR wt n R) {vs v v' : vW} (hc : clR wt R vs) (hup : upR wt n R vs) (hv : leV wt n vs v) (hr : Reach wt R v v') (hC : ∀ s ev, R s ev → ky wt (v' s) ≤ ky wt (ev v)) (iter : ∃ u, Reach wt R v u ∧ clR wt R u) (hne : ∃ s, s < n ∧ v s ≠ vs s) : ∃ s, s < n ∧ v s ≠ vs s ∧ v' s = vs s := by
  refine Classical.byContradiction fun hno => ?_
  have hno' : ∀ s, s < n → v s ≠ vs s → v' s ≠ vs s := fun s hs h1 h2 => hno ⟨s, hs, h1, h2⟩
  have hv' : leV wt n vs v' := hr _ (stab_ge hR hc) hv
  have lt_of : ∀ (u : vW) s, s < n → leV wt n vs u → u s ≠ vs s → ky wt (vs s) < ky wt (u s) := by
    intro u s hs hu hn
    have h1 := hu s hs
    rcases Nat.lt_or_ge (ky wt (vs s)) (ky wt (u s)) with h2 | h2
    · exact h2
    · exact absurd (ky_inj hw (Nat.le_antisymm h2 h1)) hn
  have supp : ∀ (u0 : vW) s ev, R s ev → v s ≠ vs s → (∀ s, s < n → v s = vs s → u0 s = vs s) → (∀ s, s < n → v s ≠ vs s → ky wt (vs s) < ky wt (u0 s)) → ky wt (vs s) < ky wt (ev u0) := by
    intro u0 s ev hrs hF p1 p2
    obtain ⟨hs, hN⟩ := hR s ev hrs
    have hle : leV wt n vs u0 := by
      intro i hi
      by_cases e : v i = vs i
      · rw [p1 i hi e]; exact Nat.le_refl _
      · exact Nat.le_of_lt (p2 i hi e)
    have a1 := hc s ev hrs
    have a2 := nice_mono hN hle
    rcases Nat.lt_or_ge (ky wt (vs s)) (ky wt (ev u0)) with h | h
    · exact h
    · exfalso
      have e1 : ev vs = ev u0 := ky_inj hw (by omega)
      have l1 := lt_of v s hs hv hF
      have l2 := ky_le_top hw (v s)
      obtain ⟨D, d1, d2⟩ := (hN vs u0 hle).2 e1 (by omega)
      have e2 : ev v = ev vs := by
        refine d2 v hv fun i hi hd => ?_
        refine Classical.byContradiction fun hni => ?_
        have := p2 i hi hni
        rw [← d1 i hi hd] at this
        omega
      have b1 := hC s ev hrs
      rw [e2] at b1
      have b2 := hv' s hs
      exact hno' s hs hF (ky_inj hw (by omega))
  obtain ⟨u, hu1, hu2⟩ := iter
  have hP := hu1 (fun u => (∀ s, s < n → v s = vs s → u s = vs s) ∧ (∀ s, s < n → v s ≠ vs s → ky wt (vs s) < ky wt (u s))) ?_ ⟨fun s _ h => h, fun s hs h => lt_of v s hs hv h⟩
  · obtain ⟨s, hs, hn⟩ := hne
    have a1 := hP.2 s hs hn
    have a2 := hup u hu2 s hs
    omega
  · intro w w0 s ev hrs hw1 hw0
    obtain ⟨hs, hN⟩ := hR s ev hrs
    constructor
    · intro i hi hF
      by_cases e : i = s
      · subst e
        rw [updW_s]
        have hle : leV wt n vs w0 := by
          intro j hj
          by_cases e : v j = vs j
          · rw [hw0.1 j hj e]; exact Nat.le_refl _
          · exact Nat.le_of_lt (hw0.2 j hj e)
        have a1 := hc i ev hrs
        have a2 := nice_mono hN hle
        have a3 := hw1.1 i hi hF
        apply ky_inj hw
        rw [minW_ky, a3]
        omega
      · rw [updW_n e]; exact hw1.1 i hi hF
    · intro i hi hF
      by_cases e : i = s
      · subst e
        rw [updW_s, minW_ky]
        have a1 := supp w0 i ev hrs hF hw0.1 hw0.2
        have a2 := hw1.2 i hi hF
        omega
      · rw [updW_n e]; exact hw1.2 i hi hF
theorem upR_no (hw : wt9 wt) : upR wt n R (fun _ => wNo) := fun w _ s _ => by rw [ky_no]; exact ky_le_top hw _
theorem leV_no (hw : wt9 wt) (v : vW) : leV wt n v (fun _ => wNo) := fun s _ => by rw [ky_no]; exact ky_le_top hw _
theorem least_uniq (hw : wt9 wt) {v w : vW} (c1 : clR wt R v) (u1 : upR wt n R v) (c2 : clR wt R w) (u2 : upR wt n R w) : ∀ s, s < n → v s = w s := fun s hs => ky_inj hw (Nat.le_antisymm (u2 v c1 s hs) (u1 w c2 s hs))
theorem least_rounds (hw : wt9 wt) (hR : okR wt n R) {b : vW} (hb : upR wt n R b) (st : vW → vW) (hst : ∀ v, Reach wt R v (st v)) (hC : ∀ v, leV wt n v b → ∀ s ev, R s ev → ky wt (st v s) ≤ ky wt (ev v)) : ∃ m : vW → Nat, (∀ v, m v ≤ n) ∧ ∀ v, leV wt n v b → upR wt n R v → leV wt n (st v) b ∧ upR wt n R (st v) ∧ ((∃ s, s < n ∧ st v s ≠ v s) → m (st v) < m v) ∧ ((∀ s, s < n → st v s = v s) → clR wt R v) := by
  obtain ⟨vs, r1, hc⟩ := least_exist hw hR b st hst hC b (leV_rfl b)
  have hup : upR wt n R vs := r1 _ (stab_up hR) hb
  refine ⟨fun v => pcR (fun i => decide (i < n) && !(decide (ky wt (v i) = ky wt (vs i)))) n, fun v => pcR_le _ _, fun v hvb hv => ?_⟩
  have hv1 : leV wt n vs v := hv vs hc
  have hle : leV wt n (st v) v := hst v _ (stab_le v) (leV_rfl v)
  have hup2 : upR wt n R (st v) := hst v _ (stab_up hR) hv
  have hv2 : leV wt n vs (st v) := hup2 vs hc
  refine ⟨leV_trans hle hvb, hup2, fun h => ?_, fun h => ?_⟩
  · have hne : ∃ s, s < n ∧ v s ≠ vs s := by
      refine Classical.byContradiction fun hno => ?_
      obtain ⟨s, hs, hn⟩ := h
      have e : v s = vs s := Classical.byContradiction fun e => hno ⟨s, hs, e⟩
      apply hn
      apply ky_inj hw
      have a1 := hle s hs
      have a2 := hv2 s hs
      rw [e] at a1 ⊢
      omega
    obtain ⟨s, hs, h1, h2⟩ := least_prog hw hR hc hup hv1 (hst v) (fun s ev hr => hC v hvb s ev hr) (least_exist hw hR b st hst hC v hvb) hne
    refine pcR_lt ?_ n s hs ?_ ?_
    · intro i hi
      simp only [Bool.and_eq_true, decide_eq_true_eq, Bool.not_eq_true', decide_eq_false_iff_not] at hi ⊢
      refine ⟨hi.1, fun e => hi.2 ?_⟩
      have a1 := hle i hi.1
      have a2 := hv2 i hi.1
      omega
    · simp only [Bool.and_eq_true, decide_eq_true_eq, Bool.not_eq_true', decide_eq_false_iff_not]
      exact ⟨hs, fun e => h1 (ky_inj hw e)⟩
    · rw [h2]
      simp
  · intro s ev hr
    have := hC v hvb s ev hr
    rw [h s (hR s ev hr).1] at this
    exact this
/-! steps that keep the rules, and what they cover -/
def Good (wt : Nat → Nat) (n : Nat) (R : RuleS) (f : vW → vW) (d : vW → Bool) : Prop := (∀ v, Reach wt R v (f v)) ∧ (∀ v, d v = true → ∃ s, s < n ∧ ky wt (f v s) < ky wt (v s)) ∧ (∀ v, d v = false → f v = v)
theorem good_le {f : vW → vW} {d : vW → Bool} (h : Good wt n R f d) (v : vW) : leV wt n (f v) v := h.1 v _ (stab_le v) (leV_rfl v)
theorem good_id : Good wt n R (fun v => v) (fun _ => false) := ⟨reach_rfl, fun v h => by simp at h, fun _ _ => rfl⟩
theorem good_if {f : vW → vW} {d : vW → Bool} (c : Bool) (h : c = true → Good wt n R f d) : Good wt n R (fun v => if c = true then f v else v) (fun v => c && d v) := by
  cases c with
  | true => simpa using h rfl
  | false => simpa using good_id
theorem good_seq {f g : vW → vW} {d e : vW → Bool} (hf : Good wt n R f d) (hg : Good wt n R g e) : Good wt n R (fun v => g (f v)) (fun v => d v || e (f v)) := by
  refine ⟨fun v => reach_trans (hf.1 v) (hg.1 _), fun v h => ?_, fun v h => ?_⟩
  · rw [Bool.or_eq_true] at h
    rcases h with h | h
    · obtain ⟨s, hs, hl⟩ := hf.2.1 v h
      exact ⟨s, hs, Nat.lt_of_le_of_lt (good_le hg (f v) s hs) hl⟩
    · obtain ⟨s, hs, hl⟩ := hg.2.1 _ h
      exact ⟨s, hs, Nat.lt_of_lt_of_le hl (good_le hf v s hs)⟩
  · rw [Bool.or_eq_false_iff] at h
    show g (f v) = v
    rw [hg.2.2 _ h.2, hf.2.2 v h.1]
theorem good_fold {f : Nat → vW → vW} {d : Nat → vW → Bool} : ∀ k, (∀ i, i < k → Good wt n R (f i) (d i)) → Good wt n R (foldN f k) (chN d f k)
  | 0, _ => good_id
  | k + 1, h => good_seq (f := foldN f k) (g := f k) (d := chN d f k) (e := d k) (good_fold k (fun i hi => h i (Nat.lt_succ_of_lt hi))) (h k (Nat.lt_succ_self k))
theorem minW_eq_lt {a b : wW} (h : ky wt b < ky wt a) : minW wt a b = b := by unfold minW; rw [if_pos h]
theorem minW_eq_ge {a b : wW} (h : ¬ ky wt b < ky wt a) : minW wt a b = a := by unfold minW; rw [if_neg h]
theorem good_lower (hR : okR wt n R) {s : Nat} {ev : vW → wW} (h : R s ev) : Good wt n R (fun v => updW v s (minW wt (v s) (ev v))) (fun v => decide (ky wt (ev v) < ky wt (v s))) := by
  refine ⟨fun v => reach_step h, fun v hd => ⟨s, (hR s ev h).1, ?_⟩, fun v hd => ?_⟩
  · have hd := of_decide_eq_true hd
    show ky wt (updW v s (minW wt (v s) (ev v)) s) < _
    have e : updW v s (minW wt (v s) (ev v)) s = minW wt (v s) (ev v) := if_pos rfl
    rw [e, minW_eq_lt hd]; exact hd
  · have hd := of_decide_eq_false hd
    funext i
    show updW v s (minW wt (v s) (ev v)) i = v i
    rw [minW_eq_ge hd]
    by_cases e : i = s
    · subst e; exact updW_s
    · exact updW_n e
theorem cov_fold (hR : okR wt n R) {f : Nat → vW → vW} {d : Nat → vW → Bool} {b : vW} (k : Nat) (h : ∀ i, i < k → Good wt n R (f i) (d i)) (p : Nat) (hp : p < k) (s : Nat) (ev : vW → wW) (hr : R s ev) (hc : ∀ v, leV wt n v b → ky wt (f p v s) ≤ ky wt (ev v)) (v : vW) (hv : leV wt n v b) : ky wt (foldN f k v s) ≤ ky wt (ev v) := by
  obtain ⟨hs, hN⟩ := hR s ev hr
  induction k with
  | zero => exact absurd hp (Nat.not_lt_zero _)
  | succ k ih =>
    have r0 := good_le (good_fold k (fun i hi => h i (Nat.lt_succ_of_lt hi))) v
    show ky wt (f k (foldN f k v) s) ≤ _
    by_cases e : p = k
    · subst e
      exact Nat.le_trans (hc _ (leV_trans r0 hv)) (nice_mono hN r0)
    · have ih := ih (fun i hi => h i (Nat.lt_succ_of_lt hi)) (by omega)
      exact Nat.le_trans (good_le (h k (Nat.lt_succ_self k)) _ s hs) ih
theorem cov_l (hR : okR wt n R) {f g : vW → vW} {e : vW → Bool} {b : vW} (hg : Good wt n R g e) {s : Nat} {ev : vW → wW} (hr : R s ev) (hc : ∀ v, leV wt n v b → ky wt (f v s) ≤ ky wt (ev v)) (v : vW) (hv : leV wt n v b) : ky wt (g (f v) s) ≤ ky wt (ev v) := Nat.le_trans (good_le hg _ s (hR s ev hr).1) (hc v hv)
theorem cov_r (hR : okR wt n R) {f g : vW → vW} {d : vW → Bool} {b : vW} (hf : Good wt n R f d) {s : Nat} {ev : vW → wW} (hr : R s ev) (hc : ∀ v, leV wt n v b → ky wt (g v s) ≤ ky wt (ev v)) (v : vW) (hv : leV wt n v b) : ky wt (g (f v) s) ≤ ky wt (ev v) := Nat.le_trans (hc _ (leV_trans (good_le hf v) hv)) (nice_mono (hR s ev hr).2 (good_le hf v))
theorem least_sweep (hw : wt9 wt) (hR : okR wt n R) {b : vW} (hb : upR wt n R b) {f : vW → vW} {d : vW → Bool} (hg : Good wt n R f d) (hc : ∀ s ev, R s ev → ∀ v, leV wt n v b → ky wt (f v s) ≤ ky wt (ev v)) : ∃ m : vW → Nat, (∀ v, m v ≤ n) ∧ ∀ v, leV wt n v b → upR wt n R v → leV wt n (f v) b ∧ upR wt n R (f v) ∧ (d v = true → m (f v) < m v) ∧ (d v = false → f v = v ∧ clR wt R v) := by
  obtain ⟨m, h1, h2⟩ := least_rounds hw hR hb f hg.1 (fun v hv s ev hr => hc s ev hr v hv)
  refine ⟨m, h1, fun v hvb hv => ?_⟩
  obtain ⟨a0, a1, a2, a3⟩ := h2 v hvb hv
  refine ⟨a0, a1, fun hd => a2 ?_, fun hd => ?_⟩
  · obtain ⟨s, hs, hl⟩ := hg.2.1 v hd
    exact ⟨s, hs, fun e => by rw [e] at hl; exact Nat.lt_irrefl _ hl⟩
  · have e := hg.2.2 v hd
    exact ⟨e, a3 (fun s _ => by rw [e])⟩
end LST
