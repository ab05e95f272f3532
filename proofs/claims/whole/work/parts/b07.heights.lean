/-! HEIGHTS of nodes: by walks up (the reference), and child by child (the class) -/
def wkU (pa : Nat → Nat) (x : Nat) : Nat → Nat → Nat × Nat
  | 0, k => (k, 0)
  | f + 1, k => if k ≤ x then (k, 0) else ((wkU pa x f (pa k)).1, (wkU pa x f (pa k)).2 + 1)
def DU (pa : Nat → Nat) (x k : Nat) : Nat × Nat := wkU pa x k k
section HT
variable {pa : Nat → Nat} {c : Nat}
theorem wkU_fuel (hpa : ∀ k, 0 < k → k < c → pa k < k) (x : Nat) : ∀ k f, k < c → k ≤ f → wkU pa x f k = wkU pa x k k := by
  intro k
  induction k using Nat.strongRecOn with
  | _ k ih =>
    intro f hk hf
    cases k with
    | zero =>
      cases f with
      | zero => rfl
      | succ f => simp only [wkU]; rw [if_pos (Nat.zero_le _)]
    | succ k =>
      cases f with
      | zero => omega
      | succ f =>
        have hp := hpa (k + 1) (by omega) hk
        simp only [wkU]
        rw [ih (pa (k + 1)) hp f (by omega) (by omega), ih (pa (k + 1)) hp k (by omega) (by omega)]
theorem DU_eq (hpa : ∀ k, 0 < k → k < c → pa k < k) (x : Nat) {k : Nat} (hk : k < c) : DU pa x k = if k ≤ x then (k, 0) else ((DU pa x (pa k)).1, (DU pa x (pa k)).2 + 1) := by
  unfold DU
  cases k with
  | zero => simp [wkU]
  | succ k =>
    have hp := hpa (k + 1) (by omega) hk
    have : wkU pa x (k + 1) (k + 1) = if k + 1 ≤ x then (k + 1, 0) else ((wkU pa x k (pa (k + 1))).1, (wkU pa x k (pa (k + 1))).2 + 1) := rfl
    rw [this, wkU_fuel hpa x (pa (k + 1)) k (by omega) (by omega)]
def hU (pa : Nat → Nat) (c x k : Nat) : Nat := if x ≤ k ∧ (DU pa x k).1 = x then (DU pa x k).2 else 0
def HU (pa : Nat → Nat) (c x : Nat) : Nat := mxN (hU pa c x) c
theorem DU_le (hpa : ∀ k, 0 < k → k < c → pa k < k) (x : Nat) : ∀ k, k < c → (DU pa x k).2 ≤ k := by
  intro k
  induction k using Nat.strongRecOn with
  | _ k ih =>
    intro hk
    rw [DU_eq hpa x hk]
    split
    · exact Nat.zero_le _
    · have hp := hpa k (by omega) hk
      have := ih (pa k) hp (by omega)
      show (DU pa x (pa k)).2 + 1 ≤ k
      omega
theorem DU_self (hpa : ∀ k, 0 < k → k < c → pa k < k) {x : Nat} (hx : x < c) : DU pa x x = (x, 0) := by rw [DU_eq hpa x hx, if_pos (Nat.le_refl _)]
/-- below a child, and one up -/
theorem DU_up (hpa : ∀ k, 0 < k → k < c → pa k < k) {x k : Nat} (hk : pa k = x) (hxk : x < k) : ∀ m n, m < c → DU pa k m = (k, n) → DU pa x m = (x, n + 1) := by
  intro m
  induction m using Nat.strongRecOn with
  | _ m ih =>
    intro n hm h
    rw [DU_eq hpa k hm] at h
    by_cases e : m ≤ k
    · rw [if_pos e] at h
      injection h with h1 h2
      subst h1 h2
      rw [DU_eq hpa x hm, if_neg (by omega), hk, DU_self hpa (by omega)]
    · rw [if_neg e] at h
      injection h with h1 h2
      have hp := hpa m (by omega) hm
      have e2 : DU pa k (pa m) = (k, n - 1) := Prod.ext h1 (by show _ = n - 1; omega)
      have := ih (pa m) hp (n - 1) (by omega) e2
      rw [DU_eq hpa x hm, if_neg (by omega), this]
      show (x, n - 1 + 1 + 1) = (x, n + 1)
      rw [show n - 1 + 1 = n by omega]
theorem DU_down (hpa : ∀ k, 0 < k → k < c → pa k < k) {x : Nat} : ∀ m n, m < c → DU pa x m = (x, n + 1) → ∃ k, x < k ∧ k ≤ m ∧ pa k = x ∧ DU pa k m = (k, n) := by
  intro m
  induction m using Nat.strongRecOn with
  | _ m ih =>
    intro n hm h
    rw [DU_eq hpa x hm] at h
    by_cases e : m ≤ x
    · rw [if_pos e] at h
      injection h with h1 h2
      exact absurd h2 (by omega)
    · rw [if_neg e] at h
      injection h with h1 h2
      have hp := hpa m (by omega) hm
      have e2 : DU pa x (pa m) = (x, n) := Prod.ext h1 (by show _ = n; omega)
      cases n with
      | zero =>
        have e3 := e2
        rw [DU_eq hpa x (show pa m < c by omega)] at e3
        by_cases e4 : pa m ≤ x
        · rw [if_pos e4] at e3
          injection e3 with e5 _
          exact ⟨m, by omega, Nat.le_refl _, e5, DU_self hpa hm⟩
        · rw [if_neg e4] at e3
          injection e3 with _ e6
          exact absurd e6 (by omega)
      | succ n =>
        obtain ⟨k, k1, k2, k3, k4⟩ := ih (pa m) hp n (by omega) e2
        refine ⟨k, k1, by omega, k3, ?_⟩
        rw [DU_eq hpa k hm, if_neg (by omega), k4]
/-- a node's height is one more than its highest child's -/
theorem HU_rec (hpa : ∀ k, 0 < k → k < c → pa k < k) (x : Nat) : HU pa c x = mxN (fun k => if x < k ∧ pa k = x then HU pa c k + 1 else 0) c := by
  refine Nat.le_antisymm (mxN_le _ fun m hm => ?_) (mxN_le _ fun k hk => ?_)
  · unfold hU
    by_cases h : x ≤ m ∧ (DU pa x m).1 = x
    · rw [if_pos h]
      by_cases h0 : (DU pa x m).2 = 0
      · rw [h0]; exact Nat.zero_le _
      · obtain ⟨n, hn⟩ : ∃ n, (DU pa x m).2 = n + 1 := ⟨(DU pa x m).2 - 1, by omega⟩
        obtain ⟨k, k1, k2, k3, k4⟩ := DU_down hpa m n hm (Prod.ext h.2 hn)
        have a1 := le_mxN (fun k => if x < k ∧ pa k = x then HU pa c k + 1 else 0) c k (by omega)
        have a2 := le_mxN (hU pa c k) c m hm
        have a3 : hU pa c k m = n := by
          unfold hU
          rw [k4, if_pos ⟨k2, rfl⟩]
        have a4 : (if x < k ∧ pa k = x then HU pa c k + 1 else 0) = HU pa c k + 1 := if_pos ⟨k1, k3⟩
        have a5 : hU pa c k m ≤ HU pa c k := a2
        simp only [a4] at a1
        omega
    · rw [if_neg h]; exact Nat.zero_le _
  · show (if x < k ∧ pa k = x then HU pa c k + 1 else 0) ≤ HU pa c x
    by_cases h : x < k ∧ pa k = x
    · rw [if_pos h]
      have up : ∀ m n, m < c → DU pa k m = (k, n) → n + 1 ≤ HU pa c x := fun m n hm e => by
        have e2 := DU_up hpa h.2 h.1 m n hm e
        have hkm : x ≤ m := by
          by_cases hmx : m ≤ x
          · rw [DU_eq hpa x hm, if_pos hmx] at e2
            injection e2 with _ e3
            exact absurd e3 (by omega)
          · omega
        have a := le_mxN (hU pa c x) c m hm
        have b : hU pa c x m = n + 1 := by
          unfold hU
          rw [e2, if_pos ⟨hkm, rfl⟩]
        have : hU pa c x m ≤ HU pa c x := a
        omega
      by_cases hz : HU pa c k = 0
      · rw [hz]; exact up k 0 hk (DU_self hpa hk)
      · obtain ⟨m, m1, m2⟩ := mxN_ex (f := hU pa c k) c (by unfold HU at hz; omega)
        have m3 : hU pa c k m = HU pa c k := m2
        unfold hU at m3
        split at m3
        · rename_i hh
          have := up m (HU pa c k) m1 (Prod.ext hh.2 m3)
          exact this
        · omega
    · rw [if_neg h]; exact Nat.zero_le _
theorem HU_lt (hpa : ∀ k, 0 < k → k < c → pa k < k) (x : Nat) (hc : 0 < c) : HU pa c x < c := by
  have : HU pa c x ≤ c - 1 := mxN_le _ fun m hm => by
    unfold hU
    split
    · have := DU_le hpa x m hm; omega
    · omega
  omega
theorem mxN_congr {f g : Nat → Nat} : ∀ k, (∀ i, i < k → f i = g i) → mxN f k = mxN g k
  | 0, _ => rfl
  | k + 1, h => by
    simp only [mxN]
    rw [mxN_congr k (fun i hi => h i (by omega)), h k (by omega)]
def chH (pa : Nat → Nat) (c j x k : Nat) : Nat := if j < k ∧ (0 < k ∧ pa k = x) then HU pa c k + 1 else 0
theorem c_finish (hpa : ∀ k, 0 < k → k < c → pa k < k) (h0 : 0 < c) (h300 : c ≤ 300) {tp th : Nat → Int32} (hp : ∀ k, 0 < k → k < c → tp k = nI (pa k)) (hz : ∀ k, k < c → th k = 0) (o : Int32) {N : Nat} (hN : 400 < N) : ∃ th', fX9_finish N tp th o (nI c) = some (th', nI c) ∧ ∀ k, k < c → th' k = nI (HU pa c k) := by
  have emn : (if (300 : Int32) < nI c then 300 else nI c) = nI c := by
    rw [if_neg (show ¬ (300 : Int32) < nI c from nI_nlt (show c ≤ 300 from h300) (by decide))]
  simp only [fX9_finish, lt_, jn_, emn, nI_sub1 h0]
  refine vlp2 (B := bX9_finish_18 tp (nI c) fun v3 => some (v3, nI c)) (fun t i h => i = nI (c - 1 - t) ∧ t ≤ c - 1 ∧ ∀ x, x < c → h x = nI (mxN (chH pa c (c - 1 - t) x) c)) (fun r => ∃ th', r = some (th', nI c) ∧ ∀ k, k < c → th' k = nI (HU pa c k)) (c - 1) ?_ ?_ N _ th (by omega) ⟨rfl, Nat.zero_le _, fun x hx => ?_⟩
  · rintro t i h ht ⟨rfl, hb, hh⟩
    left
    obtain ⟨j, hj⟩ : ∃ j, j = c - 1 - t := ⟨_, rfl⟩
    have hj0 : 0 < j := by omega
    have hjc : j < c := by omega
    have e2 : c - 1 - (t + 1) = j - 1 := by omega
    rw [← hj] at hh ⊢
    have hpj := hpa j hj0 hjc
    have hself : mxN (chH pa c j j) c = HU pa c j := by
      rw [HU_rec hpa j]
      congr 1
      funext k
      unfold chH
      by_cases e : j < k ∧ pa k = j
      · rw [if_pos e, if_pos ⟨e.1, by omega, e.2⟩]
      · rw [if_neg e, if_neg (fun q => e ⟨q.1, q.2.2⟩)]
    have hlt : HU pa c j < c := HU_lt hpa j h0
    have hub : ∀ x, mxN (chH pa c j x) c ≤ c := fun x => mxN_le _ fun k hk => by
      unfold chH
      split
      · have := HU_lt hpa k h0; omega
      · omega
    refine ⟨nI (j - 1), upd h (pa j) (nI (max (mxN (chH pa c j (pa j)) c) (HU pa c j + 1))), ⟨by rw [e2], by omega, fun x hx => ?_⟩, fun rc => ?_⟩
    · rw [e2]
      have hmono : ∀ x k, chH pa c j x k ≤ chH pa c (j - 1) x k := fun x k => by
        unfold chH
        by_cases e : j < k ∧ (0 < k ∧ pa k = x)
        · rw [if_pos e, if_pos ⟨by omega, e.2⟩]; exact Nat.le_refl _
        · rw [if_neg e]; exact Nat.zero_le _
      by_cases ex : x = pa j
      · rw [ex, pk_us]
        congr 1
        refine Nat.le_antisymm ?_ (mxN_le _ fun k hk => ?_)
        · have a1 : mxN (chH pa c j (pa j)) c ≤ mxN (chH pa c (j - 1) (pa j)) c := mxN_le _ fun k hk => Nat.le_trans (hmono _ k) (le_mxN (chH pa c (j - 1) (pa j)) c k hk)
          have a2 := le_mxN (chH pa c (j - 1) (pa j)) c j hjc
          have a3 : chH pa c (j - 1) (pa j) j = HU pa c j + 1 := by unfold chH; rw [if_pos ⟨by omega, hj0, rfl⟩]
          omega
        · by_cases ek : k = j
          · subst ek
            have : chH pa c (k - 1) (pa k) k = HU pa c k + 1 := by unfold chH; rw [if_pos ⟨by omega, hj0, rfl⟩]
            omega
          · have a4 : chH pa c (j - 1) (pa j) k = chH pa c j (pa j) k := by
              unfold chH
              by_cases e : j < k ∧ (0 < k ∧ pa k = pa j)
              · rw [if_pos e, if_pos ⟨by omega, e.2⟩]
              · rw [if_neg e, if_neg (fun q => e ⟨by omega, q.2⟩)]
            have := le_mxN (chH pa c j (pa j)) c k hk
            omega
      · rw [pk_un ex, hh x hx]
        congr 1
        have : ∀ k, chH pa c j x k = chH pa c (j - 1) x k := fun k => by
          unfold chH
          by_cases e : j < k ∧ (0 < k ∧ pa k = x)
          · rw [if_pos e, if_pos ⟨by omega, e.2⟩]
          · rw [if_neg e, if_neg (fun q => e ⟨by
              by_cases ek : k = j
              · subst ek; exact absurd q.2.2.symm ex
              · omega, q.2⟩)]
        rw [funext this]
    · have hb1 := hub (pa j)
      have hhas : fX9_has (nI c) (nI (pa j)) = some (b01 (inI (nI (pa j)) c)) := c_has (nI (pa j)) (by omega)
      simp only [bX9_finish_18, jn_, lt_]
      rw [if_neg (show ¬ nI j ≤ (0 : Int32) from nI_nle hj0 (by omega)), ag_ok (show j < 300 by omega), obs, hp j hj0 hjc, hhas, obs, inI_nI (by omega) (by omega), if_neg (by decide), ag_ok (show pa j < 300 by omega), obs, ag_ok (show j < 300 by omega), obs, hh _ (by omega), hh _ hjc, hself, nI_1, mx_nI (by omega) (by omega), as_ok (show pa j < 300 by omega), obs, nI_addm1 hj0]
  · rintro i h ⟨rfl, hb, hh⟩
    refine ⟨_, ⟨h, rfl, fun k hk => ?_⟩, fun rc => ?_⟩
    · rw [hh k hk, Nat.sub_self, HU_rec hpa k, mxN_congr c (g := fun m => if k < m ∧ pa m = k then HU pa c m + 1 else 0) (fun m hm => ?_)]
      unfold chH
      by_cases e : k < m ∧ pa m = k
      · rw [if_pos e, if_pos ⟨by omega, by omega, e.2⟩]
      · rw [if_neg e, if_neg (fun q => e ⟨by have := hpa m q.1 hm; omega, q.2.2⟩)]
    · simp only [bX9_finish_18]
      rw [Nat.sub_self, if_pos (by decide)]
  · rw [hz x hx, mxN_zero fun k hk => by unfold chH; rw [if_neg (by omega)]]
    rfl
theorem m_height (hpa : ∀ k, 0 < k → k < c → pa k < k) (h300 : c ≤ 300) {tp : Nat → Int32} (hp : ∀ k, 0 < k → k < c → tp k = nI (pa k)) {x : Nat} (hx : x < c) {N : Nat} (hN : 400 < N) : fX12_nodeHeight N (nI c) tp (nI x) = some (nI (HU pa c x)) := by
  have hin : fX12_in (nI x) 0 (nI c - 1) = some 1 := by
    rw [m_in (nI x) (show c < 2 ^ 30 by omega), inI_nI hx (by omega)]
    rfl
  simp only [fX12_nodeHeight, hin, obs, jn_]
  rw [if_neg (show ¬ (1 : Int32) = 0 by decide)]
  refine vlp2 (B := bX12_nodeHeight_21 N (nI x) (nI c) tp fun v2 => some v2) (fun j v i => i = nI (x + j) ∧ x + j ≤ c ∧ v = nI (mxN (hU pa c x) (x + j))) (fun r => r = some (nI (HU pa c x))) (c - x) ?_ ?_ N 0 (nI x) (by omega) ⟨rfl, by omega, ?_⟩
  · rintro j v i hj ⟨rfl, hb, rfl⟩
    left
    have hk : x + j < c := by omega
    have hub : mxN (hU pa c x) (x + j) ≤ c := mxN_le _ fun m hm => by
      unfold hU
      split
      · have := DU_le hpa x m (by omega); omega
      · omega
    have hdl := DU_le hpa x (x + j) hk
    refine ⟨nI (mxN (hU pa c x) (x + (j + 1))), nI (x + (j + 1)), ⟨rfl, by omega, rfl⟩, fun rc => ?_⟩
    have walk : ∀ K : Int32 → Int32 → Option Int32, itr2 (bX12_nodeHeight_35 (nI x) tp K) N (nI (x + j)) 0 = K (nI (DU pa x (x + j)).1) (nI (DU pa x (x + j)).2) := by
      intro K
      have key : ∀ k n M, k < c → k < M → n + k < 2 ^ 30 → itr2 (bX12_nodeHeight_35 (nI x) tp K) M (nI k) (nI n) = K (nI (DU pa x k).1) (nI (n + (DU pa x k).2)) := by
        intro k
        induction k using Nat.strongRecOn with
        | _ k ih =>
          intro n M hkc hM hn
          obtain ⟨M, rfl⟩ : ∃ M', M = M' + 1 := ⟨M - 1, by omega⟩
          rw [itr2_S, DU_eq hpa x hkc]
          simp only [bX12_nodeHeight_35]
          by_cases e : k ≤ x
          · rw [if_pos (nI_le e (by omega)), if_pos e]
            rfl
          · have hpk := hpa k (by omega) hkc
            rw [if_neg (nI_ge (by omega) (by omega)), if_neg e, ag_ok (show k < 300 by omega), obs, hp k (by omega) hkc]
            simp only [lt_, nI_1]
            rw [ih (pa k) hpk (n + 1) M (by omega) (by omega) (by omega)]
            show K _ (nI (n + 1 + (DU pa x (pa k)).2)) = K _ (nI (n + ((DU pa x (pa k)).2 + 1)))
            rw [show n + 1 + (DU pa x (pa k)).2 = n + ((DU pa x (pa k)).2 + 1) by omega]
      have := key (x + j) 0 N hk (by omega) (by omega)
      rw [Nat.zero_add] at this
      exact this
    simp only [bX12_nodeHeight_21, jn2, jn_, lt_, nI_1]
    rw [if_neg (nI_ge hk (by omega)), walk, show x + (j + 1) = x + j + 1 by omega, mxN_S]
    have hD1 : (DU pa x (x + j)).1 < 2 ^ 31 := by
      have : ∀ k, k < c → (DU pa x k).1 ≤ k := by
        intro k
        induction k using Nat.strongRecOn with
        | _ k ih =>
          intro hkc
          rw [DU_eq hpa x hkc]
          split
          · exact Nat.le_refl _
          · have hpk := hpa k (by omega) hkc
            have := ih (pa k) hpk (by omega)
            show (DU pa x (pa k)).1 ≤ k
            omega
      have := this (x + j) hk
      omega
    by_cases e1 : (DU pa x (x + j)).1 = x
    · have eh : hU pa c x (x + j) = (DU pa x (x + j)).2 := by unfold hU; rw [if_pos ⟨by omega, e1⟩]
      rw [if_pos (by rw [e1]), eh]
      by_cases e2 : (DU pa x (x + j)).2 ≤ mxN (hU pa c x) (x + j)
      · rw [if_pos (nI_le e2 (by omega)), Nat.max_eq_left e2]
      · rw [if_neg (nI_ge (by omega) (by omega)), Nat.max_eq_right (by omega)]
    · have eh : hU pa c x (x + j) = 0 := by unfold hU; rw [if_neg (fun h => e1 h.2)]
      rw [if_neg (by rw [nI_eq (by omega) (by omega)]; exact e1), eh, Nat.max_eq_left (Nat.zero_le _)]
  · rintro v i ⟨rfl, hb, rfl⟩
    have ex : x + (c - x) = c := by omega
    refine ⟨some (nI (HU pa c x)), rfl, fun rc => ?_⟩
    simp only [bX12_nodeHeight_21]
    rw [ex, if_pos (Int32.le_refl _)]
    rfl
  · have : mxN (hU pa c x) (x + 0) = 0 := mxN_zero fun i hi => by
      unfold hU
      rw [if_neg (by omega)]
    rw [this]
    rfl
end HT
