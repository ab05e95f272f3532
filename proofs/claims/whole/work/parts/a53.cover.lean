/-! LEAST INSERTIONS: words over stretches of the input -/
def mnN (wt : Nat → Nat) (f : Nat → wW) : Nat → wW
  | 0 => wNo
  | n + 1 => minW wt (mnN wt f n) (f n)
theorem mnN_congr {wt : Nat → Nat} {f g : Nat → wW} : ∀ n, (∀ d, d < n → f d = g d) → mnN wt f n = mnN wt g n
  | 0, _ => rfl
  | n + 1, h => by simp only [mnN]; rw [mnN_congr n (fun d hd => h d (by omega)), h n (by omega)]
def rs (n a b : Nat) : Nat := 81 * n + 9 * a + b
/-- the least word of symbol s over the stretch from a to b -/
def sw (inp : Nat → Nat) (v : vW) (s a b : Nat) : wW := if s < 10 then (if b = a ∨ (b = a + 1 ∧ inp a = s) then wT s else wNo) else v (rs (s - 10) a b)
/-- the least words of the first i symbols over the stretches from a -/
def cov (wt : Nat → Nat) (inp : Nat → Nat) (v : vW) (a : Nat) (w : List Nat) : Nat → Nat → wW
  | 0, b => if b = a then wEm else wNo
  | i + 1, b => mnN wt (fun d => catW (cov wt inp v a w i (a + d)) (sw inp v (sy w i) (a + d) b)) (b - a + 1)
def RR (wt : Nat → Nat) (inp : Nat → Nat) (L : Nat) (G : List gP) : RuleS := fun s ev => ∃ p a b, p < G.length ∧ a ≤ b ∧ b ≤ L ∧ s = rs (gp G p).1 a b ∧ ev = fun v => cov wt inp v a (gp G p).2 (gp G p).2.length b
theorem rs_lt {n a b : Nat} (hn : n < 8) (ha : a < 9) (hb : b < 9) : rs n a b < 648 := by unfold rs; omega
theorem rs_inj {n a b n' a' b' : Nat} (ha : a < 9) (hb : b < 9) (ha' : a' < 9) (hb' : b' < 9) (h : rs n a b = rs n' a' b') : n = n' ∧ a = a' ∧ b = b' := by unfold rs at h; omega
section CV
variable {wt : Nat → Nat} {inp : Nat → Nat}
theorem nice_sw {s a b : Nat} (hs : s < 18) (ha : a < 9) (hb : b < 9) : Nice wt 648 (fun v => sw inp v s a b) := by
  by_cases h : s < 10
  · have : (fun v => sw inp v s a b) = fun _ => if b = a ∨ (b = a + 1 ∧ inp a = s) then wT s else wNo := by funext v; unfold sw; rw [if_pos h]
    rw [this]; exact nice_const _ _ _
  · have : (fun v => sw inp v s a b) = fun v : vW => v (rs (s - 10) a b) := by funext v; unfold sw; rw [if_neg h]
    rw [this]; exact nice_slot _ (rs_lt (by omega) ha hb)
theorem nice_mn (hw : wt9 wt) {f : Nat → vW → wW} : ∀ n, (∀ d, d < n → Nice wt 648 (f d)) → Nice wt 648 (fun v => mnN wt (fun d => f d v) n)
  | 0, _ => nice_const _ _ _
  | n + 1, h => nice_min hw (nice_mn hw n (fun d hd => h d (Nat.lt_succ_of_lt hd))) (h n (Nat.lt_succ_self n))
theorem nice_cov (hw : wt9 wt) {w : List Nat} (hok : ∀ s ∈ w, s < 18) {a : Nat} (ha : a < 9) : ∀ i, i ≤ w.length → ∀ b, b < 9 → Nice wt 648 (fun v => cov wt inp v a w i b)
  | 0, _, b, _ => nice_const _ _ _
  | i + 1, hi, b, hb => nice_mn hw _ (fun d hd => nice_cat hw (nice_cov hw hok ha i (by omega) (a + d) (by omega)) (nice_sw (hok _ (sy_mem (by omega))) (by omega) hb))
theorem okR_RR (hw : wt9 wt) {L : Nat} (hL : L ≤ 8) {G : List gP} (hG : okG G) : okR wt 648 (RR wt inp L G) := by
  rintro s ev ⟨p, a, b, hp, hab, hb, rfl, rfl⟩
  have hq := okG_gp hG hp
  exact ⟨rs_lt hq.1 (by omega) (by omega), nice_cov hw (okP18 hq) (by omega) _ (Nat.le_refl _) b (by omega)⟩
theorem sw_congr {v u : vW} {a b : Nat} {s : Nat} (h : ∀ n, v (rs n a b) = u (rs n a b)) : sw inp v s a b = sw inp u s a b := by
  unfold sw
  by_cases h10 : s < 10
  · rw [if_pos h10, if_pos h10]
  · rw [if_neg h10, if_neg h10, h]
theorem cov_congr {v u : vW} {a : Nat} {w : List Nat} : ∀ i b, a ≤ b → (∀ n m e, a ≤ m → m ≤ e → e ≤ b → v (rs n m e) = u (rs n m e)) → cov wt inp v a w i b = cov wt inp u a w i b
  | 0, b, _, _ => rfl
  | i + 1, b, hab, h => by
    simp only [cov]
    refine mnN_congr _ fun d hd => ?_
    rw [cov_congr i (a + d) (by omega) (fun n m e h1 h2 h3 => h n m e h1 h2 (by omega)), sw_congr (fun n => h n (a + d) b (by omega) (by omega) (Nat.le_refl _))]
end CV
