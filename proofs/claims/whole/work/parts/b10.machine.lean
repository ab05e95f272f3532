/-! LOOPS of eleven and fourteen; THE PARSER as a machine of its own -/
theorem vlq11 {K A0 A1 A2 A3 A4 A5 A6 A7 A8 A9 A10 ρ : Type} {B : K → (A0 → A1 → A2 → A3 → A4 → A5 → A6 → A7 → A8 → A9 → A10 → Option ρ) → A0 → A1 → A2 → A3 → A4 → A5 → A6 → A7 → A8 → A9 → A10 → Option ρ} (P : Nat → A0 → A1 → A2 → A3 → A4 → A5 → A6 → A7 → A8 → A9 → A10 → Prop) (Q : (K → Option ρ) → Prop) (m : Nat) (h1 : ∀ j a0 a1 a2 a3 a4 a5 a6 a7 a8 a9 a10, j < m → P j a0 a1 a2 a3 a4 a5 a6 a7 a8 a9 a10 → (∃ b0 b1 b2 b3 b4 b5 b6 b7 b8 b9 b10, P (j + 1) b0 b1 b2 b3 b4 b5 b6 b7 b8 b9 b10 ∧ ∀ κ rc, B κ rc a0 a1 a2 a3 a4 a5 a6 a7 a8 a9 a10 = rc b0 b1 b2 b3 b4 b5 b6 b7 b8 b9 b10) ∨ (∃ r, Q r ∧ ∀ κ rc, B κ rc a0 a1 a2 a3 a4 a5 a6 a7 a8 a9 a10 = r κ)) (h0 : ∀ a0 a1 a2 a3 a4 a5 a6 a7 a8 a9 a10, P m a0 a1 a2 a3 a4 a5 a6 a7 a8 a9 a10 → ∃ r, Q r ∧ ∀ κ rc, B κ rc a0 a1 a2 a3 a4 a5 a6 a7 a8 a9 a10 = r κ) (N : Nat) (a0 : A0) (a1 : A1) (a2 : A2) (a3 : A3) (a4 : A4) (a5 : A5) (a6 : A6) (a7 : A7) (a8 : A8) (a9 : A9) (a10 : A10) (hN : m < N) (hP : P 0 a0 a1 a2 a3 a4 a5 a6 a7 a8 a9 a10) : Q (fun κ => itr11 (B κ) N a0 a1 a2 a3 a4 a5 a6 a7 a8 a9 a10) := by
  refine vlq1 (B := fun κ rc (o : A0 × A1 × A2 × A3 × A4 × A5 × A6 × A7 × A8 × A9 × A10) => B κ (fun a0 a1 a2 a3 a4 a5 a6 a7 a8 a9 a10 => rc (a0, a1, a2, a3, a4, a5, a6, a7, a8, a9, a10)) o.1 o.2.1 o.2.2.1 o.2.2.2.1 o.2.2.2.2.1 o.2.2.2.2.2.1 o.2.2.2.2.2.2.1 o.2.2.2.2.2.2.2.1 o.2.2.2.2.2.2.2.2.1 o.2.2.2.2.2.2.2.2.2.1 o.2.2.2.2.2.2.2.2.2.2) (fun j (v : A0 × A1 × A2 × A3 × A4 × A5 × A6 × A7 × A8 × A9 × A10) => P j v.1 v.2.1 v.2.2.1 v.2.2.2.1 v.2.2.2.2.1 v.2.2.2.2.2.1 v.2.2.2.2.2.2.1 v.2.2.2.2.2.2.2.1 v.2.2.2.2.2.2.2.2.1 v.2.2.2.2.2.2.2.2.2.1 v.2.2.2.2.2.2.2.2.2.2) Q m ?_ ?_ N (a0, a1, a2, a3, a4, a5, a6, a7, a8, a9, a10) hN hP
  · rintro j ⟨a0, a1, a2, a3, a4, a5, a6, a7, a8, a9, a10⟩ hj hv
    rcases h1 j a0 a1 a2 a3 a4 a5 a6 a7 a8 a9 a10 hj hv with ⟨b0, b1, b2, b3, b4, b5, b6, b7, b8, b9, b10, e1, e2⟩ | ⟨r, e1, e2⟩
    · exact Or.inl ⟨(b0, b1, b2, b3, b4, b5, b6, b7, b8, b9, b10), e1, fun κ rc => e2 κ _⟩
    · exact Or.inr ⟨r, e1, fun κ rc => e2 κ _⟩
  · rintro ⟨a0, a1, a2, a3, a4, a5, a6, a7, a8, a9, a10⟩ hv
    obtain ⟨r, e1, e2⟩ := h0 a0 a1 a2 a3 a4 a5 a6 a7 a8 a9 a10 hv
    exact ⟨r, e1, fun κ rc => e2 κ _⟩
theorem vlp11 {A0 A1 A2 A3 A4 A5 A6 A7 A8 A9 A10 ρ : Type} {B : (A0 → A1 → A2 → A3 → A4 → A5 → A6 → A7 → A8 → A9 → A10 → Option ρ) → A0 → A1 → A2 → A3 → A4 → A5 → A6 → A7 → A8 → A9 → A10 → Option ρ} (P : Nat → A0 → A1 → A2 → A3 → A4 → A5 → A6 → A7 → A8 → A9 → A10 → Prop) (Q : Option ρ → Prop) (m : Nat) (h1 : ∀ j a0 a1 a2 a3 a4 a5 a6 a7 a8 a9 a10, j < m → P j a0 a1 a2 a3 a4 a5 a6 a7 a8 a9 a10 → (∃ b0 b1 b2 b3 b4 b5 b6 b7 b8 b9 b10, P (j + 1) b0 b1 b2 b3 b4 b5 b6 b7 b8 b9 b10 ∧ ∀ rc, B rc a0 a1 a2 a3 a4 a5 a6 a7 a8 a9 a10 = rc b0 b1 b2 b3 b4 b5 b6 b7 b8 b9 b10) ∨ (∃ r, Q r ∧ ∀ rc, B rc a0 a1 a2 a3 a4 a5 a6 a7 a8 a9 a10 = r)) (h0 : ∀ a0 a1 a2 a3 a4 a5 a6 a7 a8 a9 a10, P m a0 a1 a2 a3 a4 a5 a6 a7 a8 a9 a10 → ∃ r, Q r ∧ ∀ rc, B rc a0 a1 a2 a3 a4 a5 a6 a7 a8 a9 a10 = r) (N : Nat) (a0 : A0) (a1 : A1) (a2 : A2) (a3 : A3) (a4 : A4) (a5 : A5) (a6 : A6) (a7 : A7) (a8 : A8) (a9 : A9) (a10 : A10) (hN : m < N) (hP : P 0 a0 a1 a2 a3 a4 a5 a6 a7 a8 a9 a10) : Q (itr11 B N a0 a1 a2 a3 a4 a5 a6 a7 a8 a9 a10) := by
  refine vlq11 (K := Unit) (B := fun _ => B) P (fun r => Q (r ())) m ?_ ?_ N a0 a1 a2 a3 a4 a5 a6 a7 a8 a9 a10 hN hP
  · intro j a0 a1 a2 a3 a4 a5 a6 a7 a8 a9 a10 hj hv
    rcases h1 j a0 a1 a2 a3 a4 a5 a6 a7 a8 a9 a10 hj hv with ⟨b0, b1, b2, b3, b4, b5, b6, b7, b8, b9, b10, e1, e2⟩ | ⟨r, e1, e2⟩
    · exact Or.inl ⟨b0, b1, b2, b3, b4, b5, b6, b7, b8, b9, b10, e1, fun _ => e2⟩
    · exact Or.inr ⟨fun _ => r, e1, fun _ => e2⟩
  · intro a0 a1 a2 a3 a4 a5 a6 a7 a8 a9 a10 hv
    obtain ⟨r, e1, e2⟩ := h0 a0 a1 a2 a3 a4 a5 a6 a7 a8 a9 a10 hv
    exact ⟨fun _ => r, e1, fun _ => e2⟩
theorem vlq14 {K A0 A1 A2 A3 A4 A5 A6 A7 A8 A9 A10 A11 A12 A13 ρ : Type} {B : K → (A0 → A1 → A2 → A3 → A4 → A5 → A6 → A7 → A8 → A9 → A10 → A11 → A12 → A13 → Option ρ) → A0 → A1 → A2 → A3 → A4 → A5 → A6 → A7 → A8 → A9 → A10 → A11 → A12 → A13 → Option ρ} (P : Nat → A0 → A1 → A2 → A3 → A4 → A5 → A6 → A7 → A8 → A9 → A10 → A11 → A12 → A13 → Prop) (Q : (K → Option ρ) → Prop) (m : Nat) (h1 : ∀ j a0 a1 a2 a3 a4 a5 a6 a7 a8 a9 a10 a11 a12 a13, j < m → P j a0 a1 a2 a3 a4 a5 a6 a7 a8 a9 a10 a11 a12 a13 → (∃ b0 b1 b2 b3 b4 b5 b6 b7 b8 b9 b10 b11 b12 b13, P (j + 1) b0 b1 b2 b3 b4 b5 b6 b7 b8 b9 b10 b11 b12 b13 ∧ ∀ κ rc, B κ rc a0 a1 a2 a3 a4 a5 a6 a7 a8 a9 a10 a11 a12 a13 = rc b0 b1 b2 b3 b4 b5 b6 b7 b8 b9 b10 b11 b12 b13) ∨ (∃ r, Q r ∧ ∀ κ rc, B κ rc a0 a1 a2 a3 a4 a5 a6 a7 a8 a9 a10 a11 a12 a13 = r κ)) (h0 : ∀ a0 a1 a2 a3 a4 a5 a6 a7 a8 a9 a10 a11 a12 a13, P m a0 a1 a2 a3 a4 a5 a6 a7 a8 a9 a10 a11 a12 a13 → ∃ r, Q r ∧ ∀ κ rc, B κ rc a0 a1 a2 a3 a4 a5 a6 a7 a8 a9 a10 a11 a12 a13 = r κ) (N : Nat) (a0 : A0) (a1 : A1) (a2 : A2) (a3 : A3) (a4 : A4) (a5 : A5) (a6 : A6) (a7 : A7) (a8 : A8) (a9 : A9) (a10 : A10) (a11 : A11) (a12 : A12) (a13 : A13) (hN : m < N) (hP : P 0 a0 a1 a2 a3 a4 a5 a6 a7 a8 a9 a10 a11 a12 a13) : Q (fun κ => itr14 (B κ) N a0 a1 a2 a3 a4 a5 a6 a7 a8 a9 a10 a11 a12 a13) := by
  refine vlq1 (B := fun κ rc (o : A0 × A1 × A2 × A3 × A4 × A5 × A6 × A7 × A8 × A9 × A10 × A11 × A12 × A13) => B κ (fun a0 a1 a2 a3 a4 a5 a6 a7 a8 a9 a10 a11 a12 a13 => rc (a0, a1, a2, a3, a4, a5, a6, a7, a8, a9, a10, a11, a12, a13)) o.1 o.2.1 o.2.2.1 o.2.2.2.1 o.2.2.2.2.1 o.2.2.2.2.2.1 o.2.2.2.2.2.2.1 o.2.2.2.2.2.2.2.1 o.2.2.2.2.2.2.2.2.1 o.2.2.2.2.2.2.2.2.2.1 o.2.2.2.2.2.2.2.2.2.2.1 o.2.2.2.2.2.2.2.2.2.2.2.1 o.2.2.2.2.2.2.2.2.2.2.2.2.1 o.2.2.2.2.2.2.2.2.2.2.2.2.2) (fun j (v : A0 × A1 × A2 × A3 × A4 × A5 × A6 × A7 × A8 × A9 × A10 × A11 × A12 × A13) => P j v.1 v.2.1 v.2.2.1 v.2.2.2.1 v.2.2.2.2.1 v.2.2.2.2.2.1 v.2.2.2.2.2.2.1 v.2.2.2.2.2.2.2.1 v.2.2.2.2.2.2.2.2.1 v.2.2.2.2.2.2.2.2.2.1 v.2.2.2.2.2.2.2.2.2.2.1 v.2.2.2.2.2.2.2.2.2.2.2.1 v.2.2.2.2.2.2.2.2.2.2.2.2.1 v.2.2.2.2.2.2.2.2.2.2.2.2.2) Q m ?_ ?_ N (a0, a1, a2, a3, a4, a5, a6, a7, a8, a9, a10, a11, a12, a13) hN hP
  · rintro j ⟨a0, a1, a2, a3, a4, a5, a6, a7, a8, a9, a10, a11, a12, a13⟩ hj hv
    rcases h1 j a0 a1 a2 a3 a4 a5 a6 a7 a8 a9 a10 a11 a12 a13 hj hv with ⟨b0, b1, b2, b3, b4, b5, b6, b7, b8, b9, b10, b11, b12, b13, e1, e2⟩ | ⟨r, e1, e2⟩
    · exact Or.inl ⟨(b0, b1, b2, b3, b4, b5, b6, b7, b8, b9, b10, b11, b12, b13), e1, fun κ rc => e2 κ _⟩
    · exact Or.inr ⟨r, e1, fun κ rc => e2 κ _⟩
  · rintro ⟨a0, a1, a2, a3, a4, a5, a6, a7, a8, a9, a10, a11, a12, a13⟩ hv
    obtain ⟨r, e1, e2⟩ := h0 a0 a1 a2 a3 a4 a5 a6 a7 a8 a9 a10 a11 a12 a13 hv
    exact ⟨r, e1, fun κ rc => e2 κ _⟩
theorem vlp14 {A0 A1 A2 A3 A4 A5 A6 A7 A8 A9 A10 A11 A12 A13 ρ : Type} {B : (A0 → A1 → A2 → A3 → A4 → A5 → A6 → A7 → A8 → A9 → A10 → A11 → A12 → A13 → Option ρ) → A0 → A1 → A2 → A3 → A4 → A5 → A6 → A7 → A8 → A9 → A10 → A11 → A12 → A13 → Option ρ} (P : Nat → A0 → A1 → A2 → A3 → A4 → A5 → A6 → A7 → A8 → A9 → A10 → A11 → A12 → A13 → Prop) (Q : Option ρ → Prop) (m : Nat) (h1 : ∀ j a0 a1 a2 a3 a4 a5 a6 a7 a8 a9 a10 a11 a12 a13, j < m → P j a0 a1 a2 a3 a4 a5 a6 a7 a8 a9 a10 a11 a12 a13 → (∃ b0 b1 b2 b3 b4 b5 b6 b7 b8 b9 b10 b11 b12 b13, P (j + 1) b0 b1 b2 b3 b4 b5 b6 b7 b8 b9 b10 b11 b12 b13 ∧ ∀ rc, B rc a0 a1 a2 a3 a4 a5 a6 a7 a8 a9 a10 a11 a12 a13 = rc b0 b1 b2 b3 b4 b5 b6 b7 b8 b9 b10 b11 b12 b13) ∨ (∃ r, Q r ∧ ∀ rc, B rc a0 a1 a2 a3 a4 a5 a6 a7 a8 a9 a10 a11 a12 a13 = r)) (h0 : ∀ a0 a1 a2 a3 a4 a5 a6 a7 a8 a9 a10 a11 a12 a13, P m a0 a1 a2 a3 a4 a5 a6 a7 a8 a9 a10 a11 a12 a13 → ∃ r, Q r ∧ ∀ rc, B rc a0 a1 a2 a3 a4 a5 a6 a7 a8 a9 a10 a11 a12 a13 = r) (N : Nat) (a0 : A0) (a1 : A1) (a2 : A2) (a3 : A3) (a4 : A4) (a5 : A5) (a6 : A6) (a7 : A7) (a8 : A8) (a9 : A9) (a10 : A10) (a11 : A11) (a12 : A12) (a13 : A13) (hN : m < N) (hP : P 0 a0 a1 a2 a3 a4 a5 a6 a7 a8 a9 a10 a11 a12 a13) : Q (itr14 B N a0 a1 a2 a3 a4 a5 a6 a7 a8 a9 a10 a11 a12 a13) := by
  refine vlq14 (K := Unit) (B := fun _ => B) P (fun r => Q (r ())) m ?_ ?_ N a0 a1 a2 a3 a4 a5 a6 a7 a8 a9 a10 a11 a12 a13 hN hP
  · intro j a0 a1 a2 a3 a4 a5 a6 a7 a8 a9 a10 a11 a12 a13 hj hv
    rcases h1 j a0 a1 a2 a3 a4 a5 a6 a7 a8 a9 a10 a11 a12 a13 hj hv with ⟨b0, b1, b2, b3, b4, b5, b6, b7, b8, b9, b10, b11, b12, b13, e1, e2⟩ | ⟨r, e1, e2⟩
    · exact Or.inl ⟨b0, b1, b2, b3, b4, b5, b6, b7, b8, b9, b10, b11, b12, b13, e1, fun _ => e2⟩
    · exact Or.inr ⟨fun _ => r, e1, fun _ => e2⟩
  · intro a0 a1 a2 a3 a4 a5 a6 a7 a8 a9 a10 a11 a12 a13 hv
    obtain ⟨r, e1, e2⟩ := h0 a0 a1 a2 a3 a4 a5 a6 a7 a8 a9 a10 a11 a12 a13 hv
    exact ⟨fun _ => r, e1, fun _ => e2⟩
abbrev pT : Type := pS × Nat × Nat × List Nat × List (Nat × Int32)
def goP (G : List gP) (E : Int32) (F W : Nat → Int32) (I : List Nat) : pT → pT
  | ([], a, st, T, D) => ([], a, st, T, D)
  | ((x, b) :: s, a, st, T, D) => if x < 10 then (s, a + 1, st + 1, T, D ++ [(x, b)]) else match enT G E F W (x - 10) (tok I a) with
    | some p => (put1 (gp G p).2 (nI st) s, a, st + 1, T ++ [p], D ++ [(x, b)])
    | none => ((x, b) :: s, a, st, T, D)
def aP (G : List gP) (E : Int32) (F W : Nat → Int32) (I : List Nat) : Nat → pT → Nat × pT
  | 0, σ => (2, σ)
  | k + 1, σ => if σ.1.length = 0 ∧ tok I σ.2.1 = 8 then (0, σ) else if canP G E F W I σ.2.1 σ.1 = false then (1, σ) else if σ.2.2.1 = 300 then (2, σ) else if 60 < (goP G E F W I σ).1.length then (2, goP G E F W I σ) else aP G E F W I k (goP G E F W I σ)
def PAR (s : pS) (D : List (Nat × Int32)) : Prop := (D = [] ∧ s = [(10, -1)]) ∨ (0 < D.length ∧ (D.getD 0 (0, 0)).2 = -1 ∧ (∀ x ∈ s, ∃ j, j < D.length ∧ x.2 = nI j) ∧ ∀ k, 0 < k → k < D.length → ∃ j, j < k ∧ (D.getD k (0, 0)).2 = nI j)
def PO (G : List gP) (I : List Nat) (σ : pT) : Prop := okK σ.1 ∧ σ.1.length ≤ 65 ∧ σ.2.1 ≤ I.length ∧ σ.2.2.2.1.length ≤ σ.2.2.1 ∧ σ.2.2.2.2.length = σ.2.2.1 ∧ σ.2.2.1 ≤ 300 ∧ PAR σ.1 σ.2.2.2.2
theorem getD_app {α : Type} (D : List α) (x d : α) (k : Nat) : (D ++ [x]).getD k d = if k < D.length then D.getD k d else if k = D.length then x else d := by
  rw [List.getD_eq_getElem?_getD]
  by_cases h : k < D.length
  · rw [if_pos h, List.getElem?_append_left h, List.getD_eq_getElem?_getD]
  · rw [if_neg h, List.getElem?_append_right (by omega)]
    by_cases e : k = D.length
    · rw [if_pos e, e, Nat.sub_self]; rfl
    · rw [if_neg e, List.getElem?_eq_none (by rw [List.length_singleton]; omega)]; rfl
theorem PAR_step {x : Nat} {b : Int32} {s s' : pS} {D : List (Nat × Int32)} (h : PAR ((x, b) :: s) D) (hs : ∀ y ∈ s', y ∈ s ∨ y.2 = nI D.length) (h0 : D = [] → ∀ y ∈ s', y.2 = nI D.length) : PAR s' (D ++ [(x, b)]) := by
  have hl : (D ++ [(x, b)]).length = D.length + 1 := by rw [List.length_append]; rfl
  right
  refine ⟨by omega, ?_, fun y hy => ?_, fun k hk0 hk => ?_⟩
  · rcases h with ⟨h1, h2⟩ | ⟨h1, h2, h3, h4⟩
    · subst h1
      injection h2 with h2 _
      exact congrArg Prod.snd h2
    · rw [getD_app, if_pos h1]; exact h2
  · rcases h with ⟨h1, h2⟩ | ⟨h1, h2, h3, h4⟩
    · exact ⟨D.length, by omega, h0 h1 y hy⟩
    · rcases hs y hy with h5 | h5
      · obtain ⟨j, j1, j2⟩ := h3 y (List.mem_cons_of_mem _ h5)
        exact ⟨j, by omega, j2⟩
      · exact ⟨D.length, by omega, h5⟩
  · rw [hl] at hk
    rcases h with ⟨h1, h2⟩ | ⟨h1, h2, h3, h4⟩
    · subst h1
      exact absurd hk (by simp only [List.length_nil]; omega)
    · rw [getD_app]
      by_cases e : k < D.length
      · rw [if_pos e]; exact h4 k hk0 e
      · have : k = D.length := by omega
        subst this
        rw [if_neg e, if_pos rfl]
        exact h3 _ List.mem_cons_self
theorem goP_ok {G : List gP} (hG : okG G) {E : Int32} {F W : Nat → Int32} {I : List Nat} {σ : pT} (hP : PO G I σ) (h60 : σ.1.length ≤ 60) (hc : canP G E F W I σ.2.1 σ.1 = true) (h300 : σ.2.2.1 < 300) : PO G I (goP G E F W I σ) ∧ (goP G E F W I σ).2.2.1 = σ.2.2.1 + 1 := by
  obtain ⟨s, a, st, T, D⟩ := σ
  obtain ⟨p1, p2, p3, p4, p5, p6, p7⟩ := hP
  cases s with
  | nil => exact absurd hc (by simp [canP])
  | cons y s =>
    obtain ⟨x, b⟩ := y
    have hx : okS x := p1 _ List.mem_cons_self
    have hks : okK s := fun z hz => p1 z (List.mem_cons_of_mem _ hz)
    have h60' : s.length + 1 ≤ 60 := h60
    have h300' : st < 300 := h300
    have p3' : a ≤ I.length := p3
    have p4' : T.length ≤ st := p4
    have p5' : D.length = st := p5
    simp only [canP] at hc
    simp only [goP]
    by_cases h10 : x < 10
    · rw [if_pos h10, decide_eq_true_eq] at hc
      rw [if_pos h10]
      have hx8 : x < 8 := by rcases hx with h | h <;> omega
      have ha : a < I.length := by
        unfold tok at hc
        split at hc
        · assumption
        · omega
      refine ⟨⟨hks, by show s.length ≤ 65; omega, by show a + 1 ≤ I.length; omega, by show T.length ≤ st + 1; omega, by show (D ++ [(x, b)]).length = st + 1; rw [List.length_append, p5']; rfl, by show st + 1 ≤ 300; omega, ?_⟩, rfl⟩
      refine PAR_step p7 (fun y hy => Or.inl hy) (fun h y hy => ?_)
      rcases p7 with ⟨_, q2⟩ | ⟨q1, _⟩
      · have q2' : (x, b) :: s = [(10, -1)] := q2
        injection q2' with _ q3
        rw [q3] at hy
        exact absurd hy (by simp)
      · have q1' : 0 < D.length := q1
        rw [h] at q1'
        exact absurd q1' (by simp)
    · rw [if_neg h10] at hc
      rw [if_neg h10]
      cases he : enT G E F W (x - 10) (tok I a) with
      | none => rw [he] at hc; exact absurd hc (by simp)
      | some p =>
        have hp := enT_lt he
        have hq := okG_gp hG hp
        have h5 := hq.2.1
        have hlen := put1_len (gp G p).2 (nI st) s
        refine ⟨⟨put1_ok hq.2.2 hks, by show (put1 (gp G p).2 (nI st) s).length ≤ 65; omega, p3, by show (T ++ [p]).length ≤ st + 1; rw [List.length_append, List.length_singleton]; omega, by show (D ++ [(x, b)]).length = st + 1; rw [List.length_append, p5']; rfl, by show st + 1 ≤ 300; omega, ?_⟩, rfl⟩
        have hmem : ∀ y ∈ put1 (gp G p).2 (nI st) s, y ∈ s ∨ y.2 = nI D.length := fun y hy => by
          unfold put1 at hy
          rcases List.mem_append.mp hy with hy | hy
          · obtain ⟨z, _, rfl⟩ := List.mem_map.mp hy
            exact Or.inr (by rw [p5'])
          · exact Or.inl hy
        refine PAR_step p7 hmem (fun h y hy => ?_)
        rcases hmem y hy with h6 | h6
        · rcases p7 with ⟨_, q2⟩ | ⟨q1, _⟩
          · have q2' : (x, b) :: s = [(10, -1)] := q2
            injection q2' with _ q3
            rw [q3] at h6
            exact absurd h6 (by simp)
          · have q1' : 0 < D.length := q1
            rw [h] at q1'
            exact absurd q1' (by simp)
        · exact h6
/-- what the class holds of the machine's state -/
def PC (σ : pT) (ta : Nat → Int32) (tn : Int32) (ts tp th sk br : Nat → Int32) (dp ix sp : Int32) : Prop := SK sk br σ.1 ∧ dp = nI σ.1.length ∧ ix = nI σ.2.1 ∧ sp = nI σ.2.2.1 ∧ tn = nI σ.2.2.2.1.length ∧ (∀ k, k < σ.2.2.2.1.length → ta k = nI (σ.2.2.2.1.getD k 0)) ∧ ∀ k, k < σ.2.2.2.2.length → ts k = nI (σ.2.2.2.2.getD k (0, 0)).1 ∧ tp k = (σ.2.2.2.2.getD k (0, 0)).2 ∧ th k = 0
/-- what the reference holds of it -/
def PM (σ : pT) (ks kp : Nat → Int32) (top at0 stp trd : Int32) (trs : Nat → Int32) (mde : Int32) (nsy npa : Nat → Int32) : Prop := SK ks kp σ.1 ∧ top = nI σ.1.length ∧ at0 = nI σ.2.1 ∧ stp = nI σ.2.2.1 ∧ trd = nI σ.2.2.2.1.length ∧ (∀ k, k < σ.2.2.2.1.length → trs k = nI (σ.2.2.2.1.getD k 0)) ∧ mde = nI σ.2.2.2.2.length ∧ ∀ k, k < σ.2.2.2.2.length → nsy k = nI (σ.2.2.2.2.getD k (0, 0)).1 ∧ npa k = (σ.2.2.2.2.getD k (0, 0)).2
theorem tr_app {ta : Nat → Int32} {T : List Nat} (h : ∀ k, k < T.length → ta k = nI (T.getD k 0)) (p : Nat) : ∀ k, k < (T ++ [p]).length → upd ta T.length (nI p) k = nI ((T ++ [p]).getD k 0) := by
  intro k hk
  rw [List.length_append, List.length_singleton] at hk
  rw [getD_app]
  by_cases e : k < T.length
  · rw [if_pos e, pk_un (by omega)]; exact h k e
  · have : k = T.length := by omega
    subst this
    rw [if_neg e, if_pos rfl, pk_us]
theorem nd_app {ts tp th : Nat → Int32} {D : List (Nat × Int32)} (h : ∀ k, k < D.length → ts k = nI (D.getD k (0, 0)).1 ∧ tp k = (D.getD k (0, 0)).2 ∧ th k = 0) (x : Nat) (b : Int32) : ∀ k, k < (D ++ [(x, b)]).length → upd ts D.length (nI x) k = nI ((D ++ [(x, b)]).getD k (0, 0)).1 ∧ upd tp D.length b k = ((D ++ [(x, b)]).getD k (0, 0)).2 ∧ upd th D.length 0 k = 0 := by
  intro k hk
  rw [List.length_append, List.length_singleton] at hk
  rw [getD_app]
  by_cases e : k < D.length
  · rw [if_pos e, pk_un (by omega), pk_un (by omega), pk_un (by omega)]; exact h k e
  · have : k = D.length := by omega
    subst this
    rw [if_neg e, if_pos rfl, pk_us, pk_us, pk_us]
    exact ⟨rfl, rfl, rfl⟩
section CPA
variable {codes tm : Nat → Int32} {count il : Int32} {G : List gP} {E : Int32} {F W se ps lo : Nat → Int32} {I : List Nat}
theorem c_goP (hc : RC codes count G) (hG : okG G) (hT : TBx G E F W 0 se ps lo) (hI : IC tm il I) {σ : pT} (hP : PO G I σ) (h60 : σ.1.length ≤ 60) (hcan : canP G E F W I σ.2.1 σ.1 = true) (h300 : σ.2.2.1 < 300) {ta ts tp th sk br : Nat → Int32} {tn dp ix sp : Int32} (hC : PC σ ta tn ts tp th sk br dp ix sp) {N : Nat} (hN : 30 < N) : ∃ x b ts' tp' th' ta' tn' sk' br' dp' ix' sp', fX4_top sk dp = some x ∧ fX4_bringer br dp = some b ∧ fX9_note ts tp th sp x b = some (ts', tp', th') ∧ fX4_move N codes count ps lo tm il ta tn sk br dp ix sp = some (ta', tn', sk', br', dp', ix', sp') ∧ PC (goP G E F W I σ) ta' tn' ts' tp' th' sk' br' dp' ix' sp' := by
  obtain ⟨s, a, st, T, D⟩ := σ
  obtain ⟨p1, p2, p3, p4, p5, p6, p7⟩ := hP
  obtain ⟨c1, rfl, rfl, rfl, rfl, c6, c7⟩ := hC
  cases s with
  | nil => exact absurd hcan (by simp [canP])
  | cons y s =>
    obtain ⟨x, b⟩ := y
    have hx : okS x := p1 _ List.mem_cons_self
    have h60' : s.length + 1 ≤ 60 := h60
    have h300' : st < 300 := h300
    have p3' : a ≤ I.length := p3
    have p4' : T.length ≤ st := p4
    have p5' : D.length = st := p5
    have h40 := hI.2.1
    have hnote : fX9_note ts tp th (nI st) (nI x) b = some (upd ts st (nI x), upd tp st b, upd th st 0) := by
      simp only [fX9_note, jn3]
      rw [if_neg (nI_pos (by omega)), if_neg (nleL 300 300 h300'), as_ok h300', obs, as_ok h300', obs, as_ok h300', obs]
    obtain ⟨t1, t2⟩ := c_top c1 (show s.length < 65 by omega)
    have hnd := nd_app c7 x b
    simp only [canP] at hcan
    simp only [goP]
    by_cases h10 : x < 10
    · rw [if_pos h10]
      refine ⟨nI x, b, _, _, _, _, _, _, _, _, _, _, t1, t2, hnote, c_moveT hI c1 (show s.length < 65 by omega) h10 ta (nI T.length) a st N, c1.2.2, rfl, rfl, rfl, rfl, c6, ?_⟩
      rw [← p5']
      exact hnd
    · rw [if_neg h10] at hcan
      rw [if_neg h10]
      cases he : enT G E F W (x - 10) (tok I a) with
      | none => rw [he] at hcan; exact absurd hcan (by simp)
      | some p =>
        obtain ⟨sk', br', s1, s2⟩ := c_moveN hc hG hT hI c1 (show s.length < 60 by omega) h10 hx ta (tl := T.length) (by omega) (st := st) (show a < 2 ^ 31 by omega) he hN
        refine ⟨nI x, b, _, _, _, _, _, _, _, _, _, _, t1, t2, hnote, s2, s1, rfl, rfl, rfl, by rw [List.length_append]; rfl, tr_app c6 p, ?_⟩
        rw [← p5']
        exact hnd
end CPA
