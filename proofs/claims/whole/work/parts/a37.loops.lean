/-! LOOPS with a counted state: P j holds at the j-th turn, at most m turns; lq: a family of loops, one for each way on -/
theorem vlq1 {K V ρ : Type} {B : K → (V → Option ρ) → V → Option ρ} (P : Nat → V → Prop) (Q : (K → Option ρ) → Prop) (m : Nat) (h1 : ∀ j v, j < m → P j v → (∃ v', P (j + 1) v' ∧ ∀ κ rc, B κ rc v = rc v') ∨ (∃ r, Q r ∧ ∀ κ rc, B κ rc v = r κ)) (h0 : ∀ v, P m v → ∃ r, Q r ∧ ∀ κ rc, B κ rc v = r κ) : ∀ (N : Nat) (v : V), m < N → P 0 v → Q (fun κ => itr (B κ) N v) := by
  have key : ∀ (k j N : Nat) (v : V), j + k = m → k < N → P j v → Q (fun κ => itr (B κ) N v) := by
    intro k
    induction k with
    | zero =>
      intro j N v hj hN hP
      obtain ⟨M, rfl⟩ : ∃ M, N = M + 1 := ⟨N - 1, by omega⟩
      have : j = m := by omega
      subst this
      obtain ⟨r, hr, he⟩ := h0 v hP
      have e : (fun κ => itr (B κ) (M + 1) v) = r := by
        funext κ
        show B κ (itr (B κ) M) v = r κ
        rw [he]
      rw [e]; exact hr
    | succ k ih =>
      intro j N v hj hN hP
      obtain ⟨M, rfl⟩ : ∃ M, N = M + 1 := ⟨N - 1, by omega⟩
      rcases h1 j v (by omega) hP with ⟨v', hv, he⟩ | ⟨r, hr, he⟩
      · have e : (fun κ => itr (B κ) (M + 1) v) = fun κ => itr (B κ) M v' := by
          funext κ
          show B κ (itr (B κ) M) v = _
          rw [he]
        rw [e]; exact ih (j + 1) M v' (by omega) (by omega) hv
      · have e : (fun κ => itr (B κ) (M + 1) v) = r := by
          funext κ
          show B κ (itr (B κ) M) v = r κ
          rw [he]
        rw [e]; exact hr
  intro N v hN hP
  exact key m 0 N v (by omega) hN hP
theorem vlp1 {V ρ : Type} {B : (V → Option ρ) → V → Option ρ} (P : Nat → V → Prop) (Q : Option ρ → Prop) (m : Nat) (h1 : ∀ j v, j < m → P j v → (∃ v', P (j + 1) v' ∧ ∀ rc, B rc v = rc v') ∨ (∃ r, Q r ∧ ∀ rc, B rc v = r)) (h0 : ∀ v, P m v → ∃ r, Q r ∧ ∀ rc, B rc v = r) (N : Nat) (v : V) (hN : m < N) (hP : P 0 v) : Q (itr B N v) := by
  refine vlq1 (K := Unit) (B := fun _ => B) P (fun r => Q (r ())) m ?_ ?_ N v hN hP
  · intro j v hj hv
    rcases h1 j v hj hv with ⟨v', e1, e2⟩ | ⟨r, e1, e2⟩
    · exact Or.inl ⟨v', e1, fun _ => e2⟩
    · exact Or.inr ⟨fun _ => r, e1, fun _ => e2⟩
  · intro v hv
    obtain ⟨r, e1, e2⟩ := h0 v hv
    exact ⟨fun _ => r, e1, fun _ => e2⟩
theorem vlq2 {K A0 A1 ρ : Type} {B : K → (A0 → A1 → Option ρ) → A0 → A1 → Option ρ} (P : Nat → A0 → A1 → Prop) (Q : (K → Option ρ) → Prop) (m : Nat) (h1 : ∀ j a0 a1, j < m → P j a0 a1 → (∃ b0 b1, P (j + 1) b0 b1 ∧ ∀ κ rc, B κ rc a0 a1 = rc b0 b1) ∨ (∃ r, Q r ∧ ∀ κ rc, B κ rc a0 a1 = r κ)) (h0 : ∀ a0 a1, P m a0 a1 → ∃ r, Q r ∧ ∀ κ rc, B κ rc a0 a1 = r κ) (N : Nat) (a0 : A0) (a1 : A1) (hN : m < N) (hP : P 0 a0 a1) : Q (fun κ => itr2 (B κ) N a0 a1) := by
  refine vlq1 (B := fun κ rc (o : A0 × A1) => B κ (fun a0 a1 => rc (a0, a1)) o.1 o.2) (fun j (v : A0 × A1) => P j v.1 v.2) Q m ?_ ?_ N (a0, a1) hN hP
  · rintro j ⟨a0, a1⟩ hj hv
    rcases h1 j a0 a1 hj hv with ⟨b0, b1, e1, e2⟩ | ⟨r, e1, e2⟩
    · exact Or.inl ⟨(b0, b1), e1, fun κ rc => e2 κ _⟩
    · exact Or.inr ⟨r, e1, fun κ rc => e2 κ _⟩
  · rintro ⟨a0, a1⟩ hv
    obtain ⟨r, e1, e2⟩ := h0 a0 a1 hv
    exact ⟨r, e1, fun κ rc => e2 κ _⟩
theorem vlp2 {A0 A1 ρ : Type} {B : (A0 → A1 → Option ρ) → A0 → A1 → Option ρ} (P : Nat → A0 → A1 → Prop) (Q : Option ρ → Prop) (m : Nat) (h1 : ∀ j a0 a1, j < m → P j a0 a1 → (∃ b0 b1, P (j + 1) b0 b1 ∧ ∀ rc, B rc a0 a1 = rc b0 b1) ∨ (∃ r, Q r ∧ ∀ rc, B rc a0 a1 = r)) (h0 : ∀ a0 a1, P m a0 a1 → ∃ r, Q r ∧ ∀ rc, B rc a0 a1 = r) (N : Nat) (a0 : A0) (a1 : A1) (hN : m < N) (hP : P 0 a0 a1) : Q (itr2 B N a0 a1) := by
  refine vlq2 (K := Unit) (B := fun _ => B) P (fun r => Q (r ())) m ?_ ?_ N a0 a1 hN hP
  · intro j a0 a1 hj hv
    rcases h1 j a0 a1 hj hv with ⟨b0, b1, e1, e2⟩ | ⟨r, e1, e2⟩
    · exact Or.inl ⟨b0, b1, e1, fun _ => e2⟩
    · exact Or.inr ⟨fun _ => r, e1, fun _ => e2⟩
  · intro a0 a1 hv
    obtain ⟨r, e1, e2⟩ := h0 a0 a1 hv
    exact ⟨fun _ => r, e1, fun _ => e2⟩
theorem vlq3 {K A0 A1 A2 ρ : Type} {B : K → (A0 → A1 → A2 → Option ρ) → A0 → A1 → A2 → Option ρ} (P : Nat → A0 → A1 → A2 → Prop) (Q : (K → Option ρ) → Prop) (m : Nat) (h1 : ∀ j a0 a1 a2, j < m → P j a0 a1 a2 → (∃ b0 b1 b2, P (j + 1) b0 b1 b2 ∧ ∀ κ rc, B κ rc a0 a1 a2 = rc b0 b1 b2) ∨ (∃ r, Q r ∧ ∀ κ rc, B κ rc a0 a1 a2 = r κ)) (h0 : ∀ a0 a1 a2, P m a0 a1 a2 → ∃ r, Q r ∧ ∀ κ rc, B κ rc a0 a1 a2 = r κ) (N : Nat) (a0 : A0) (a1 : A1) (a2 : A2) (hN : m < N) (hP : P 0 a0 a1 a2) : Q (fun κ => itr3 (B κ) N a0 a1 a2) := by
  refine vlq1 (B := fun κ rc (o : A0 × A1 × A2) => B κ (fun a0 a1 a2 => rc (a0, a1, a2)) o.1 o.2.1 o.2.2) (fun j (v : A0 × A1 × A2) => P j v.1 v.2.1 v.2.2) Q m ?_ ?_ N (a0, a1, a2) hN hP
  · rintro j ⟨a0, a1, a2⟩ hj hv
    rcases h1 j a0 a1 a2 hj hv with ⟨b0, b1, b2, e1, e2⟩ | ⟨r, e1, e2⟩
    · exact Or.inl ⟨(b0, b1, b2), e1, fun κ rc => e2 κ _⟩
    · exact Or.inr ⟨r, e1, fun κ rc => e2 κ _⟩
  · rintro ⟨a0, a1, a2⟩ hv
    obtain ⟨r, e1, e2⟩ := h0 a0 a1 a2 hv
    exact ⟨r, e1, fun κ rc => e2 κ _⟩
theorem vlp3 {A0 A1 A2 ρ : Type} {B : (A0 → A1 → A2 → Option ρ) → A0 → A1 → A2 → Option ρ} (P : Nat → A0 → A1 → A2 → Prop) (Q : Option ρ → Prop) (m : Nat) (h1 : ∀ j a0 a1 a2, j < m → P j a0 a1 a2 → (∃ b0 b1 b2, P (j + 1) b0 b1 b2 ∧ ∀ rc, B rc a0 a1 a2 = rc b0 b1 b2) ∨ (∃ r, Q r ∧ ∀ rc, B rc a0 a1 a2 = r)) (h0 : ∀ a0 a1 a2, P m a0 a1 a2 → ∃ r, Q r ∧ ∀ rc, B rc a0 a1 a2 = r) (N : Nat) (a0 : A0) (a1 : A1) (a2 : A2) (hN : m < N) (hP : P 0 a0 a1 a2) : Q (itr3 B N a0 a1 a2) := by
  refine vlq3 (K := Unit) (B := fun _ => B) P (fun r => Q (r ())) m ?_ ?_ N a0 a1 a2 hN hP
  · intro j a0 a1 a2 hj hv
    rcases h1 j a0 a1 a2 hj hv with ⟨b0, b1, b2, e1, e2⟩ | ⟨r, e1, e2⟩
    · exact Or.inl ⟨b0, b1, b2, e1, fun _ => e2⟩
    · exact Or.inr ⟨fun _ => r, e1, fun _ => e2⟩
  · intro a0 a1 a2 hv
    obtain ⟨r, e1, e2⟩ := h0 a0 a1 a2 hv
    exact ⟨fun _ => r, e1, fun _ => e2⟩
theorem vlq4 {K A0 A1 A2 A3 ρ : Type} {B : K → (A0 → A1 → A2 → A3 → Option ρ) → A0 → A1 → A2 → A3 → Option ρ} (P : Nat → A0 → A1 → A2 → A3 → Prop) (Q : (K → Option ρ) → Prop) (m : Nat) (h1 : ∀ j a0 a1 a2 a3, j < m → P j a0 a1 a2 a3 → (∃ b0 b1 b2 b3, P (j + 1) b0 b1 b2 b3 ∧ ∀ κ rc, B κ rc a0 a1 a2 a3 = rc b0 b1 b2 b3) ∨ (∃ r, Q r ∧ ∀ κ rc, B κ rc a0 a1 a2 a3 = r κ)) (h0 : ∀ a0 a1 a2 a3, P m a0 a1 a2 a3 → ∃ r, Q r ∧ ∀ κ rc, B κ rc a0 a1 a2 a3 = r κ) (N : Nat) (a0 : A0) (a1 : A1) (a2 : A2) (a3 : A3) (hN : m < N) (hP : P 0 a0 a1 a2 a3) : Q (fun κ => itr4 (B κ) N a0 a1 a2 a3) := by
  refine vlq1 (B := fun κ rc (o : A0 × A1 × A2 × A3) => B κ (fun a0 a1 a2 a3 => rc (a0, a1, a2, a3)) o.1 o.2.1 o.2.2.1 o.2.2.2) (fun j (v : A0 × A1 × A2 × A3) => P j v.1 v.2.1 v.2.2.1 v.2.2.2) Q m ?_ ?_ N (a0, a1, a2, a3) hN hP
  · rintro j ⟨a0, a1, a2, a3⟩ hj hv
    rcases h1 j a0 a1 a2 a3 hj hv with ⟨b0, b1, b2, b3, e1, e2⟩ | ⟨r, e1, e2⟩
    · exact Or.inl ⟨(b0, b1, b2, b3), e1, fun κ rc => e2 κ _⟩
    · exact Or.inr ⟨r, e1, fun κ rc => e2 κ _⟩
  · rintro ⟨a0, a1, a2, a3⟩ hv
    obtain ⟨r, e1, e2⟩ := h0 a0 a1 a2 a3 hv
    exact ⟨r, e1, fun κ rc => e2 κ _⟩
theorem vlp4 {A0 A1 A2 A3 ρ : Type} {B : (A0 → A1 → A2 → A3 → Option ρ) → A0 → A1 → A2 → A3 → Option ρ} (P : Nat → A0 → A1 → A2 → A3 → Prop) (Q : Option ρ → Prop) (m : Nat) (h1 : ∀ j a0 a1 a2 a3, j < m → P j a0 a1 a2 a3 → (∃ b0 b1 b2 b3, P (j + 1) b0 b1 b2 b3 ∧ ∀ rc, B rc a0 a1 a2 a3 = rc b0 b1 b2 b3) ∨ (∃ r, Q r ∧ ∀ rc, B rc a0 a1 a2 a3 = r)) (h0 : ∀ a0 a1 a2 a3, P m a0 a1 a2 a3 → ∃ r, Q r ∧ ∀ rc, B rc a0 a1 a2 a3 = r) (N : Nat) (a0 : A0) (a1 : A1) (a2 : A2) (a3 : A3) (hN : m < N) (hP : P 0 a0 a1 a2 a3) : Q (itr4 B N a0 a1 a2 a3) := by
  refine vlq4 (K := Unit) (B := fun _ => B) P (fun r => Q (r ())) m ?_ ?_ N a0 a1 a2 a3 hN hP
  · intro j a0 a1 a2 a3 hj hv
    rcases h1 j a0 a1 a2 a3 hj hv with ⟨b0, b1, b2, b3, e1, e2⟩ | ⟨r, e1, e2⟩
    · exact Or.inl ⟨b0, b1, b2, b3, e1, fun _ => e2⟩
    · exact Or.inr ⟨fun _ => r, e1, fun _ => e2⟩
  · intro a0 a1 a2 a3 hv
    obtain ⟨r, e1, e2⟩ := h0 a0 a1 a2 a3 hv
    exact ⟨fun _ => r, e1, fun _ => e2⟩
theorem vlq5 {K A0 A1 A2 A3 A4 ρ : Type} {B : K → (A0 → A1 → A2 → A3 → A4 → Option ρ) → A0 → A1 → A2 → A3 → A4 → Option ρ} (P : Nat → A0 → A1 → A2 → A3 → A4 → Prop) (Q : (K → Option ρ) → Prop) (m : Nat) (h1 : ∀ j a0 a1 a2 a3 a4, j < m → P j a0 a1 a2 a3 a4 → (∃ b0 b1 b2 b3 b4, P (j + 1) b0 b1 b2 b3 b4 ∧ ∀ κ rc, B κ rc a0 a1 a2 a3 a4 = rc b0 b1 b2 b3 b4) ∨ (∃ r, Q r ∧ ∀ κ rc, B κ rc a0 a1 a2 a3 a4 = r κ)) (h0 : ∀ a0 a1 a2 a3 a4, P m a0 a1 a2 a3 a4 → ∃ r, Q r ∧ ∀ κ rc, B κ rc a0 a1 a2 a3 a4 = r κ) (N : Nat) (a0 : A0) (a1 : A1) (a2 : A2) (a3 : A3) (a4 : A4) (hN : m < N) (hP : P 0 a0 a1 a2 a3 a4) : Q (fun κ => itr5 (B κ) N a0 a1 a2 a3 a4) := by
  refine vlq1 (B := fun κ rc (o : A0 × A1 × A2 × A3 × A4) => B κ (fun a0 a1 a2 a3 a4 => rc (a0, a1, a2, a3, a4)) o.1 o.2.1 o.2.2.1 o.2.2.2.1 o.2.2.2.2) (fun j (v : A0 × A1 × A2 × A3 × A4) => P j v.1 v.2.1 v.2.2.1 v.2.2.2.1 v.2.2.2.2) Q m ?_ ?_ N (a0, a1, a2, a3, a4) hN hP
  · rintro j ⟨a0, a1, a2, a3, a4⟩ hj hv
    rcases h1 j a0 a1 a2 a3 a4 hj hv with ⟨b0, b1, b2, b3, b4, e1, e2⟩ | ⟨r, e1, e2⟩
    · exact Or.inl ⟨(b0, b1, b2, b3, b4), e1, fun κ rc => e2 κ _⟩
    · exact Or.inr ⟨r, e1, fun κ rc => e2 κ _⟩
  · rintro ⟨a0, a1, a2, a3, a4⟩ hv
    obtain ⟨r, e1, e2⟩ := h0 a0 a1 a2 a3 a4 hv
    exact ⟨r, e1, fun κ rc => e2 κ _⟩
theorem vlp5 {A0 A1 A2 A3 A4 ρ : Type} {B : (A0 → A1 → A2 → A3 → A4 → Option ρ) → A0 → A1 → A2 → A3 → A4 → Option ρ} (P : Nat → A0 → A1 → A2 → A3 → A4 → Prop) (Q : Option ρ → Prop) (m : Nat) (h1 : ∀ j a0 a1 a2 a3 a4, j < m → P j a0 a1 a2 a3 a4 → (∃ b0 b1 b2 b3 b4, P (j + 1) b0 b1 b2 b3 b4 ∧ ∀ rc, B rc a0 a1 a2 a3 a4 = rc b0 b1 b2 b3 b4) ∨ (∃ r, Q r ∧ ∀ rc, B rc a0 a1 a2 a3 a4 = r)) (h0 : ∀ a0 a1 a2 a3 a4, P m a0 a1 a2 a3 a4 → ∃ r, Q r ∧ ∀ rc, B rc a0 a1 a2 a3 a4 = r) (N : Nat) (a0 : A0) (a1 : A1) (a2 : A2) (a3 : A3) (a4 : A4) (hN : m < N) (hP : P 0 a0 a1 a2 a3 a4) : Q (itr5 B N a0 a1 a2 a3 a4) := by
  refine vlq5 (K := Unit) (B := fun _ => B) P (fun r => Q (r ())) m ?_ ?_ N a0 a1 a2 a3 a4 hN hP
  · intro j a0 a1 a2 a3 a4 hj hv
    rcases h1 j a0 a1 a2 a3 a4 hj hv with ⟨b0, b1, b2, b3, b4, e1, e2⟩ | ⟨r, e1, e2⟩
    · exact Or.inl ⟨b0, b1, b2, b3, b4, e1, fun _ => e2⟩
    · exact Or.inr ⟨fun _ => r, e1, fun _ => e2⟩
  · intro a0 a1 a2 a3 a4 hv
    obtain ⟨r, e1, e2⟩ := h0 a0 a1 a2 a3 a4 hv
    exact ⟨fun _ => r, e1, fun _ => e2⟩
theorem vlq6 {K A0 A1 A2 A3 A4 A5 ρ : Type} {B : K → (A0 → A1 → A2 → A3 → A4 → A5 → Option ρ) → A0 → A1 → A2 → A3 → A4 → A5 → Option ρ} (P : Nat → A0 → A1 → A2 → A3 → A4 → A5 → Prop) (Q : (K → Option ρ) → Prop) (m : Nat) (h1 : ∀ j a0 a1 a2 a3 a4 a5, j < m → P j a0 a1 a2 a3 a4 a5 → (∃ b0 b1 b2 b3 b4 b5, P (j + 1) b0 b1 b2 b3 b4 b5 ∧ ∀ κ rc, B κ rc a0 a1 a2 a3 a4 a5 = rc b0 b1 b2 b3 b4 b5) ∨ (∃ r, Q r ∧ ∀ κ rc, B κ rc a0 a1 a2 a3 a4 a5 = r κ)) (h0 : ∀ a0 a1 a2 a3 a4 a5, P m a0 a1 a2 a3 a4 a5 → ∃ r, Q r ∧ ∀ κ rc, B κ rc a0 a1 a2 a3 a4 a5 = r κ) (N : Nat) (a0 : A0) (a1 : A1) (a2 : A2) (a3 : A3) (a4 : A4) (a5 : A5) (hN : m < N) (hP : P 0 a0 a1 a2 a3 a4 a5) : Q (fun κ => itr6 (B κ) N a0 a1 a2 a3 a4 a5) := by
  refine vlq1 (B := fun κ rc (o : A0 × A1 × A2 × A3 × A4 × A5) => B κ (fun a0 a1 a2 a3 a4 a5 => rc (a0, a1, a2, a3, a4, a5)) o.1 o.2.1 o.2.2.1 o.2.2.2.1 o.2.2.2.2.1 o.2.2.2.2.2) (fun j (v : A0 × A1 × A2 × A3 × A4 × A5) => P j v.1 v.2.1 v.2.2.1 v.2.2.2.1 v.2.2.2.2.1 v.2.2.2.2.2) Q m ?_ ?_ N (a0, a1, a2, a3, a4, a5) hN hP
  · rintro j ⟨a0, a1, a2, a3, a4, a5⟩ hj hv
    rcases h1 j a0 a1 a2 a3 a4 a5 hj hv with ⟨b0, b1, b2, b3, b4, b5, e1, e2⟩ | ⟨r, e1, e2⟩
    · exact Or.inl ⟨(b0, b1, b2, b3, b4, b5), e1, fun κ rc => e2 κ _⟩
    · exact Or.inr ⟨r, e1, fun κ rc => e2 κ _⟩
  · rintro ⟨a0, a1, a2, a3, a4, a5⟩ hv
    obtain ⟨r, e1, e2⟩ := h0 a0 a1 a2 a3 a4 a5 hv
    exact ⟨r, e1, fun κ rc => e2 κ _⟩
theorem vlp6 {A0 A1 A2 A3 A4 A5 ρ : Type} {B : (A0 → A1 → A2 → A3 → A4 → A5 → Option ρ) → A0 → A1 → A2 → A3 → A4 → A5 → Option ρ} (P : Nat → A0 → A1 → A2 → A3 → A4 → A5 → Prop) (Q : Option ρ → Prop) (m : Nat) (h1 : ∀ j a0 a1 a2 a3 a4 a5, j < m → P j a0 a1 a2 a3 a4 a5 → (∃ b0 b1 b2 b3 b4 b5, P (j + 1) b0 b1 b2 b3 b4 b5 ∧ ∀ rc, B rc a0 a1 a2 a3 a4 a5 = rc b0 b1 b2 b3 b4 b5) ∨ (∃ r, Q r ∧ ∀ rc, B rc a0 a1 a2 a3 a4 a5 = r)) (h0 : ∀ a0 a1 a2 a3 a4 a5, P m a0 a1 a2 a3 a4 a5 → ∃ r, Q r ∧ ∀ rc, B rc a0 a1 a2 a3 a4 a5 = r) (N : Nat) (a0 : A0) (a1 : A1) (a2 : A2) (a3 : A3) (a4 : A4) (a5 : A5) (hN : m < N) (hP : P 0 a0 a1 a2 a3 a4 a5) : Q (itr6 B N a0 a1 a2 a3 a4 a5) := by
  refine vlq6 (K := Unit) (B := fun _ => B) P (fun r => Q (r ())) m ?_ ?_ N a0 a1 a2 a3 a4 a5 hN hP
  · intro j a0 a1 a2 a3 a4 a5 hj hv
    rcases h1 j a0 a1 a2 a3 a4 a5 hj hv with ⟨b0, b1, b2, b3, b4, b5, e1, e2⟩ | ⟨r, e1, e2⟩
    · exact Or.inl ⟨b0, b1, b2, b3, b4, b5, e1, fun _ => e2⟩
    · exact Or.inr ⟨fun _ => r, e1, fun _ => e2⟩
  · intro a0 a1 a2 a3 a4 a5 hv
    obtain ⟨r, e1, e2⟩ := h0 a0 a1 a2 a3 a4 a5 hv
    exact ⟨fun _ => r, e1, fun _ => e2⟩
theorem vlq7 {K A0 A1 A2 A3 A4 A5 A6 ρ : Type} {B : K → (A0 → A1 → A2 → A3 → A4 → A5 → A6 → Option ρ) → A0 → A1 → A2 → A3 → A4 → A5 → A6 → Option ρ} (P : Nat → A0 → A1 → A2 → A3 → A4 → A5 → A6 → Prop) (Q : (K → Option ρ) → Prop) (m : Nat) (h1 : ∀ j a0 a1 a2 a3 a4 a5 a6, j < m → P j a0 a1 a2 a3 a4 a5 a6 → (∃ b0 b1 b2 b3 b4 b5 b6, P (j + 1) b0 b1 b2 b3 b4 b5 b6 ∧ ∀ κ rc, B κ rc a0 a1 a2 a3 a4 a5 a6 = rc b0 b1 b2 b3 b4 b5 b6) ∨ (∃ r, Q r ∧ ∀ κ rc, B κ rc a0 a1 a2 a3 a4 a5 a6 = r κ)) (h0 : ∀ a0 a1 a2 a3 a4 a5 a6, P m a0 a1 a2 a3 a4 a5 a6 → ∃ r, Q r ∧ ∀ κ rc, B κ rc a0 a1 a2 a3 a4 a5 a6 = r κ) (N : Nat) (a0 : A0) (a1 : A1) (a2 : A2) (a3 : A3) (a4 : A4) (a5 : A5) (a6 : A6) (hN : m < N) (hP : P 0 a0 a1 a2 a3 a4 a5 a6) : Q (fun κ => itr7 (B κ) N a0 a1 a2 a3 a4 a5 a6) := by
  refine vlq1 (B := fun κ rc (o : A0 × A1 × A2 × A3 × A4 × A5 × A6) => B κ (fun a0 a1 a2 a3 a4 a5 a6 => rc (a0, a1, a2, a3, a4, a5, a6)) o.1 o.2.1 o.2.2.1 o.2.2.2.1 o.2.2.2.2.1 o.2.2.2.2.2.1 o.2.2.2.2.2.2) (fun j (v : A0 × A1 × A2 × A3 × A4 × A5 × A6) => P j v.1 v.2.1 v.2.2.1 v.2.2.2.1 v.2.2.2.2.1 v.2.2.2.2.2.1 v.2.2.2.2.2.2) Q m ?_ ?_ N (a0, a1, a2, a3, a4, a5, a6) hN hP
  · rintro j ⟨a0, a1, a2, a3, a4, a5, a6⟩ hj hv
    rcases h1 j a0 a1 a2 a3 a4 a5 a6 hj hv with ⟨b0, b1, b2, b3, b4, b5, b6, e1, e2⟩ | ⟨r, e1, e2⟩
    · exact Or.inl ⟨(b0, b1, b2, b3, b4, b5, b6), e1, fun κ rc => e2 κ _⟩
    · exact Or.inr ⟨r, e1, fun κ rc => e2 κ _⟩
  · rintro ⟨a0, a1, a2, a3, a4, a5, a6⟩ hv
    obtain ⟨r, e1, e2⟩ := h0 a0 a1 a2 a3 a4 a5 a6 hv
    exact ⟨r, e1, fun κ rc => e2 κ _⟩
theorem vlp7 {A0 A1 A2 A3 A4 A5 A6 ρ : Type} {B : (A0 → A1 → A2 → A3 → A4 → A5 → A6 → Option ρ) → A0 → A1 → A2 → A3 → A4 → A5 → A6 → Option ρ} (P : Nat → A0 → A1 → A2 → A3 → A4 → A5 → A6 → Prop) (Q : Option ρ → Prop) (m : Nat) (h1 : ∀ j a0 a1 a2 a3 a4 a5 a6, j < m → P j a0 a1 a2 a3 a4 a5 a6 → (∃ b0 b1 b2 b3 b4 b5 b6, P (j + 1) b0 b1 b2 b3 b4 b5 b6 ∧ ∀ rc, B rc a0 a1 a2 a3 a4 a5 a6 = rc b0 b1 b2 b3 b4 b5 b6) ∨ (∃ r, Q r ∧ ∀ rc, B rc a0 a1 a2 a3 a4 a5 a6 = r)) (h0 : ∀ a0 a1 a2 a3 a4 a5 a6, P m a0 a1 a2 a3 a4 a5 a6 → ∃ r, Q r ∧ ∀ rc, B rc a0 a1 a2 a3 a4 a5 a6 = r) (N : Nat) (a0 : A0) (a1 : A1) (a2 : A2) (a3 : A3) (a4 : A4) (a5 : A5) (a6 : A6) (hN : m < N) (hP : P 0 a0 a1 a2 a3 a4 a5 a6) : Q (itr7 B N a0 a1 a2 a3 a4 a5 a6) := by
  refine vlq7 (K := Unit) (B := fun _ => B) P (fun r => Q (r ())) m ?_ ?_ N a0 a1 a2 a3 a4 a5 a6 hN hP
  · intro j a0 a1 a2 a3 a4 a5 a6 hj hv
    rcases h1 j a0 a1 a2 a3 a4 a5 a6 hj hv with ⟨b0, b1, b2, b3, b4, b5, b6, e1, e2⟩ | ⟨r, e1, e2⟩
    · exact Or.inl ⟨b0, b1, b2, b3, b4, b5, b6, e1, fun _ => e2⟩
    · exact Or.inr ⟨fun _ => r, e1, fun _ => e2⟩
  · intro a0 a1 a2 a3 a4 a5 a6 hv
    obtain ⟨r, e1, e2⟩ := h0 a0 a1 a2 a3 a4 a5 a6 hv
    exact ⟨fun _ => r, e1, fun _ => e2⟩
theorem vlq8 {K A0 A1 A2 A3 A4 A5 A6 A7 ρ : Type} {B : K → (A0 → A1 → A2 → A3 → A4 → A5 → A6 → A7 → Option ρ) → A0 → A1 → A2 → A3 → A4 → A5 → A6 → A7 → Option ρ} (P : Nat → A0 → A1 → A2 → A3 → A4 → A5 → A6 → A7 → Prop) (Q : (K → Option ρ) → Prop) (m : Nat) (h1 : ∀ j a0 a1 a2 a3 a4 a5 a6 a7, j < m → P j a0 a1 a2 a3 a4 a5 a6 a7 → (∃ b0 b1 b2 b3 b4 b5 b6 b7, P (j + 1) b0 b1 b2 b3 b4 b5 b6 b7 ∧ ∀ κ rc, B κ rc a0 a1 a2 a3 a4 a5 a6 a7 = rc b0 b1 b2 b3 b4 b5 b6 b7) ∨ (∃ r, Q r ∧ ∀ κ rc, B κ rc a0 a1 a2 a3 a4 a5 a6 a7 = r κ)) (h0 : ∀ a0 a1 a2 a3 a4 a5 a6 a7, P m a0 a1 a2 a3 a4 a5 a6 a7 → ∃ r, Q r ∧ ∀ κ rc, B κ rc a0 a1 a2 a3 a4 a5 a6 a7 = r κ) (N : Nat) (a0 : A0) (a1 : A1) (a2 : A2) (a3 : A3) (a4 : A4) (a5 : A5) (a6 : A6) (a7 : A7) (hN : m < N) (hP : P 0 a0 a1 a2 a3 a4 a5 a6 a7) : Q (fun κ => itr8 (B κ) N a0 a1 a2 a3 a4 a5 a6 a7) := by
  refine vlq1 (B := fun κ rc (o : A0 × A1 × A2 × A3 × A4 × A5 × A6 × A7) => B κ (fun a0 a1 a2 a3 a4 a5 a6 a7 => rc (a0, a1, a2, a3, a4, a5, a6, a7)) o.1 o.2.1 o.2.2.1 o.2.2.2.1 o.2.2.2.2.1 o.2.2.2.2.2.1 o.2.2.2.2.2.2.1 o.2.2.2.2.2.2.2) (fun j (v : A0 × A1 × A2 × A3 × A4 × A5 × A6 × A7) => P j v.1 v.2.1 v.2.2.1 v.2.2.2.1 v.2.2.2.2.1 v.2.2.2.2.2.1 v.2.2.2.2.2.2.1 v.2.2.2.2.2.2.2) Q m ?_ ?_ N (a0, a1, a2, a3, a4, a5, a6, a7) hN hP
  · rintro j ⟨a0, a1, a2, a3, a4, a5, a6, a7⟩ hj hv
    rcases h1 j a0 a1 a2 a3 a4 a5 a6 a7 hj hv with ⟨b0, b1, b2, b3, b4, b5, b6, b7, e1, e2⟩ | ⟨r, e1, e2⟩
    · exact Or.inl ⟨(b0, b1, b2, b3, b4, b5, b6, b7), e1, fun κ rc => e2 κ _⟩
    · exact Or.inr ⟨r, e1, fun κ rc => e2 κ _⟩
  · rintro ⟨a0, a1, a2, a3, a4, a5, a6, a7⟩ hv
    obtain ⟨r, e1, e2⟩ := h0 a0 a1 a2 a3 a4 a5 a6 a7 hv
    exact ⟨r, e1, fun κ rc => e2 κ _⟩
theorem vlp8 {A0 A1 A2 A3 A4 A5 A6 A7 ρ : Type} {B : (A0 → A1 → A2 → A3 → A4 → A5 → A6 → A7 → Option ρ) → A0 → A1 → A2 → A3 → A4 → A5 → A6 → A7 → Option ρ} (P : Nat → A0 → A1 → A2 → A3 → A4 → A5 → A6 → A7 → Prop) (Q : Option ρ → Prop) (m : Nat) (h1 : ∀ j a0 a1 a2 a3 a4 a5 a6 a7, j < m → P j a0 a1 a2 a3 a4 a5 a6 a7 → (∃ b0 b1 b2 b3 b4 b5 b6 b7, P (j + 1) b0 b1 b2 b3 b4 b5 b6 b7 ∧ ∀ rc, B rc a0 a1 a2 a3 a4 a5 a6 a7 = rc b0 b1 b2 b3 b4 b5 b6 b7) ∨ (∃ r, Q r ∧ ∀ rc, B rc a0 a1 a2 a3 a4 a5 a6 a7 = r)) (h0 : ∀ a0 a1 a2 a3 a4 a5 a6 a7, P m a0 a1 a2 a3 a4 a5 a6 a7 → ∃ r, Q r ∧ ∀ rc, B rc a0 a1 a2 a3 a4 a5 a6 a7 = r) (N : Nat) (a0 : A0) (a1 : A1) (a2 : A2) (a3 : A3) (a4 : A4) (a5 : A5) (a6 : A6) (a7 : A7) (hN : m < N) (hP : P 0 a0 a1 a2 a3 a4 a5 a6 a7) : Q (itr8 B N a0 a1 a2 a3 a4 a5 a6 a7) := by
  refine vlq8 (K := Unit) (B := fun _ => B) P (fun r => Q (r ())) m ?_ ?_ N a0 a1 a2 a3 a4 a5 a6 a7 hN hP
  · intro j a0 a1 a2 a3 a4 a5 a6 a7 hj hv
    rcases h1 j a0 a1 a2 a3 a4 a5 a6 a7 hj hv with ⟨b0, b1, b2, b3, b4, b5, b6, b7, e1, e2⟩ | ⟨r, e1, e2⟩
    · exact Or.inl ⟨b0, b1, b2, b3, b4, b5, b6, b7, e1, fun _ => e2⟩
    · exact Or.inr ⟨fun _ => r, e1, fun _ => e2⟩
  · intro a0 a1 a2 a3 a4 a5 a6 a7 hv
    obtain ⟨r, e1, e2⟩ := h0 a0 a1 a2 a3 a4 a5 a6 a7 hv
    exact ⟨fun _ => r, e1, fun _ => e2⟩
theorem vlq9 {K A0 A1 A2 A3 A4 A5 A6 A7 A8 ρ : Type} {B : K → (A0 → A1 → A2 → A3 → A4 → A5 → A6 → A7 → A8 → Option ρ) → A0 → A1 → A2 → A3 → A4 → A5 → A6 → A7 → A8 → Option ρ} (P : Nat → A0 → A1 → A2 → A3 → A4 → A5 → A6 → A7 → A8 → Prop) (Q : (K → Option ρ) → Prop) (m : Nat) (h1 : ∀ j a0 a1 a2 a3 a4 a5 a6 a7 a8, j < m → P j a0 a1 a2 a3 a4 a5 a6 a7 a8 → (∃ b0 b1 b2 b3 b4 b5 b6 b7 b8, P (j + 1) b0 b1 b2 b3 b4 b5 b6 b7 b8 ∧ ∀ κ rc, B κ rc a0 a1 a2 a3 a4 a5 a6 a7 a8 = rc b0 b1 b2 b3 b4 b5 b6 b7 b8) ∨ (∃ r, Q r ∧ ∀ κ rc, B κ rc a0 a1 a2 a3 a4 a5 a6 a7 a8 = r κ)) (h0 : ∀ a0 a1 a2 a3 a4 a5 a6 a7 a8, P m a0 a1 a2 a3 a4 a5 a6 a7 a8 → ∃ r, Q r ∧ ∀ κ rc, B κ rc a0 a1 a2 a3 a4 a5 a6 a7 a8 = r κ) (N : Nat) (a0 : A0) (a1 : A1) (a2 : A2) (a3 : A3) (a4 : A4) (a5 : A5) (a6 : A6) (a7 : A7) (a8 : A8) (hN : m < N) (hP : P 0 a0 a1 a2 a3 a4 a5 a6 a7 a8) : Q (fun κ => itr9 (B κ) N a0 a1 a2 a3 a4 a5 a6 a7 a8) := by
  refine vlq1 (B := fun κ rc (o : A0 × A1 × A2 × A3 × A4 × A5 × A6 × A7 × A8) => B κ (fun a0 a1 a2 a3 a4 a5 a6 a7 a8 => rc (a0, a1, a2, a3, a4, a5, a6, a7, a8)) o.1 o.2.1 o.2.2.1 o.2.2.2.1 o.2.2.2.2.1 o.2.2.2.2.2.1 o.2.2.2.2.2.2.1 o.2.2.2.2.2.2.2.1 o.2.2.2.2.2.2.2.2) (fun j (v : A0 × A1 × A2 × A3 × A4 × A5 × A6 × A7 × A8) => P j v.1 v.2.1 v.2.2.1 v.2.2.2.1 v.2.2.2.2.1 v.2.2.2.2.2.1 v.2.2.2.2.2.2.1 v.2.2.2.2.2.2.2.1 v.2.2.2.2.2.2.2.2) Q m ?_ ?_ N (a0, a1, a2, a3, a4, a5, a6, a7, a8) hN hP
  · rintro j ⟨a0, a1, a2, a3, a4, a5, a6, a7, a8⟩ hj hv
    rcases h1 j a0 a1 a2 a3 a4 a5 a6 a7 a8 hj hv with ⟨b0, b1, b2, b3, b4, b5, b6, b7, b8, e1, e2⟩ | ⟨r, e1, e2⟩
    · exact Or.inl ⟨(b0, b1, b2, b3, b4, b5, b6, b7, b8), e1, fun κ rc => e2 κ _⟩
    · exact Or.inr ⟨r, e1, fun κ rc => e2 κ _⟩
  · rintro ⟨a0, a1, a2, a3, a4, a5, a6, a7, a8⟩ hv
    obtain ⟨r, e1, e2⟩ := h0 a0 a1 a2 a3 a4 a5 a6 a7 a8 hv
    exact ⟨r, e1, fun κ rc => e2 κ _⟩
theorem vlp9 {A0 A1 A2 A3 A4 A5 A6 A7 A8 ρ : Type} {B : (A0 → A1 → A2 → A3 → A4 → A5 → A6 → A7 → A8 → Option ρ) → A0 → A1 → A2 → A3 → A4 → A5 → A6 → A7 → A8 → Option ρ} (P : Nat → A0 → A1 → A2 → A3 → A4 → A5 → A6 → A7 → A8 → Prop) (Q : Option ρ → Prop) (m : Nat) (h1 : ∀ j a0 a1 a2 a3 a4 a5 a6 a7 a8, j < m → P j a0 a1 a2 a3 a4 a5 a6 a7 a8 → (∃ b0 b1 b2 b3 b4 b5 b6 b7 b8, P (j + 1) b0 b1 b2 b3 b4 b5 b6 b7 b8 ∧ ∀ rc, B rc a0 a1 a2 a3 a4 a5 a6 a7 a8 = rc b0 b1 b2 b3 b4 b5 b6 b7 b8) ∨ (∃ r, Q r ∧ ∀ rc, B rc a0 a1 a2 a3 a4 a5 a6 a7 a8 = r)) (h0 : ∀ a0 a1 a2 a3 a4 a5 a6 a7 a8, P m a0 a1 a2 a3 a4 a5 a6 a7 a8 → ∃ r, Q r ∧ ∀ rc, B rc a0 a1 a2 a3 a4 a5 a6 a7 a8 = r) (N : Nat) (a0 : A0) (a1 : A1) (a2 : A2) (a3 : A3) (a4 : A4) (a5 : A5) (a6 : A6) (a7 : A7) (a8 : A8) (hN : m < N) (hP : P 0 a0 a1 a2 a3 a4 a5 a6 a7 a8) : Q (itr9 B N a0 a1 a2 a3 a4 a5 a6 a7 a8) := by
  refine vlq9 (K := Unit) (B := fun _ => B) P (fun r => Q (r ())) m ?_ ?_ N a0 a1 a2 a3 a4 a5 a6 a7 a8 hN hP
  · intro j a0 a1 a2 a3 a4 a5 a6 a7 a8 hj hv
    rcases h1 j a0 a1 a2 a3 a4 a5 a6 a7 a8 hj hv with ⟨b0, b1, b2, b3, b4, b5, b6, b7, b8, e1, e2⟩ | ⟨r, e1, e2⟩
    · exact Or.inl ⟨b0, b1, b2, b3, b4, b5, b6, b7, b8, e1, fun _ => e2⟩
    · exact Or.inr ⟨fun _ => r, e1, fun _ => e2⟩
  · intro a0 a1 a2 a3 a4 a5 a6 a7 a8 hv
    obtain ⟨r, e1, e2⟩ := h0 a0 a1 a2 a3 a4 a5 a6 a7 a8 hv
    exact ⟨fun _ => r, e1, fun _ => e2⟩
theorem vlq10 {K A0 A1 A2 A3 A4 A5 A6 A7 A8 A9 ρ : Type} {B : K → (A0 → A1 → A2 → A3 → A4 → A5 → A6 → A7 → A8 → A9 → Option ρ) → A0 → A1 → A2 → A3 → A4 → A5 → A6 → A7 → A8 → A9 → Option ρ} (P : Nat → A0 → A1 → A2 → A3 → A4 → A5 → A6 → A7 → A8 → A9 → Prop) (Q : (K → Option ρ) → Prop) (m : Nat) (h1 : ∀ j a0 a1 a2 a3 a4 a5 a6 a7 a8 a9, j < m → P j a0 a1 a2 a3 a4 a5 a6 a7 a8 a9 → (∃ b0 b1 b2 b3 b4 b5 b6 b7 b8 b9, P (j + 1) b0 b1 b2 b3 b4 b5 b6 b7 b8 b9 ∧ ∀ κ rc, B κ rc a0 a1 a2 a3 a4 a5 a6 a7 a8 a9 = rc b0 b1 b2 b3 b4 b5 b6 b7 b8 b9) ∨ (∃ r, Q r ∧ ∀ κ rc, B κ rc a0 a1 a2 a3 a4 a5 a6 a7 a8 a9 = r κ)) (h0 : ∀ a0 a1 a2 a3 a4 a5 a6 a7 a8 a9, P m a0 a1 a2 a3 a4 a5 a6 a7 a8 a9 → ∃ r, Q r ∧ ∀ κ rc, B κ rc a0 a1 a2 a3 a4 a5 a6 a7 a8 a9 = r κ) (N : Nat) (a0 : A0) (a1 : A1) (a2 : A2) (a3 : A3) (a4 : A4) (a5 : A5) (a6 : A6) (a7 : A7) (a8 : A8) (a9 : A9) (hN : m < N) (hP : P 0 a0 a1 a2 a3 a4 a5 a6 a7 a8 a9) : Q (fun κ => itr10 (B κ) N a0 a1 a2 a3 a4 a5 a6 a7 a8 a9) := by
  refine vlq1 (B := fun κ rc (o : A0 × A1 × A2 × A3 × A4 × A5 × A6 × A7 × A8 × A9) => B κ (fun a0 a1 a2 a3 a4 a5 a6 a7 a8 a9 => rc (a0, a1, a2, a3, a4, a5, a6, a7, a8, a9)) o.1 o.2.1 o.2.2.1 o.2.2.2.1 o.2.2.2.2.1 o.2.2.2.2.2.1 o.2.2.2.2.2.2.1 o.2.2.2.2.2.2.2.1 o.2.2.2.2.2.2.2.2.1 o.2.2.2.2.2.2.2.2.2) (fun j (v : A0 × A1 × A2 × A3 × A4 × A5 × A6 × A7 × A8 × A9) => P j v.1 v.2.1 v.2.2.1 v.2.2.2.1 v.2.2.2.2.1 v.2.2.2.2.2.1 v.2.2.2.2.2.2.1 v.2.2.2.2.2.2.2.1 v.2.2.2.2.2.2.2.2.1 v.2.2.2.2.2.2.2.2.2) Q m ?_ ?_ N (a0, a1, a2, a3, a4, a5, a6, a7, a8, a9) hN hP
  · rintro j ⟨a0, a1, a2, a3, a4, a5, a6, a7, a8, a9⟩ hj hv
    rcases h1 j a0 a1 a2 a3 a4 a5 a6 a7 a8 a9 hj hv with ⟨b0, b1, b2, b3, b4, b5, b6, b7, b8, b9, e1, e2⟩ | ⟨r, e1, e2⟩
    · exact Or.inl ⟨(b0, b1, b2, b3, b4, b5, b6, b7, b8, b9), e1, fun κ rc => e2 κ _⟩
    · exact Or.inr ⟨r, e1, fun κ rc => e2 κ _⟩
  · rintro ⟨a0, a1, a2, a3, a4, a5, a6, a7, a8, a9⟩ hv
    obtain ⟨r, e1, e2⟩ := h0 a0 a1 a2 a3 a4 a5 a6 a7 a8 a9 hv
    exact ⟨r, e1, fun κ rc => e2 κ _⟩
theorem vlp10 {A0 A1 A2 A3 A4 A5 A6 A7 A8 A9 ρ : Type} {B : (A0 → A1 → A2 → A3 → A4 → A5 → A6 → A7 → A8 → A9 → Option ρ) → A0 → A1 → A2 → A3 → A4 → A5 → A6 → A7 → A8 → A9 → Option ρ} (P : Nat → A0 → A1 → A2 → A3 → A4 → A5 → A6 → A7 → A8 → A9 → Prop) (Q : Option ρ → Prop) (m : Nat) (h1 : ∀ j a0 a1 a2 a3 a4 a5 a6 a7 a8 a9, j < m → P j a0 a1 a2 a3 a4 a5 a6 a7 a8 a9 → (∃ b0 b1 b2 b3 b4 b5 b6 b7 b8 b9, P (j + 1) b0 b1 b2 b3 b4 b5 b6 b7 b8 b9 ∧ ∀ rc, B rc a0 a1 a2 a3 a4 a5 a6 a7 a8 a9 = rc b0 b1 b2 b3 b4 b5 b6 b7 b8 b9) ∨ (∃ r, Q r ∧ ∀ rc, B rc a0 a1 a2 a3 a4 a5 a6 a7 a8 a9 = r)) (h0 : ∀ a0 a1 a2 a3 a4 a5 a6 a7 a8 a9, P m a0 a1 a2 a3 a4 a5 a6 a7 a8 a9 → ∃ r, Q r ∧ ∀ rc, B rc a0 a1 a2 a3 a4 a5 a6 a7 a8 a9 = r) (N : Nat) (a0 : A0) (a1 : A1) (a2 : A2) (a3 : A3) (a4 : A4) (a5 : A5) (a6 : A6) (a7 : A7) (a8 : A8) (a9 : A9) (hN : m < N) (hP : P 0 a0 a1 a2 a3 a4 a5 a6 a7 a8 a9) : Q (itr10 B N a0 a1 a2 a3 a4 a5 a6 a7 a8 a9) := by
  refine vlq10 (K := Unit) (B := fun _ => B) P (fun r => Q (r ())) m ?_ ?_ N a0 a1 a2 a3 a4 a5 a6 a7 a8 a9 hN hP
  · intro j a0 a1 a2 a3 a4 a5 a6 a7 a8 a9 hj hv
    rcases h1 j a0 a1 a2 a3 a4 a5 a6 a7 a8 a9 hj hv with ⟨b0, b1, b2, b3, b4, b5, b6, b7, b8, b9, e1, e2⟩ | ⟨r, e1, e2⟩
    · exact Or.inl ⟨b0, b1, b2, b3, b4, b5, b6, b7, b8, b9, e1, fun _ => e2⟩
    · exact Or.inr ⟨fun _ => r, e1, fun _ => e2⟩
  · intro a0 a1 a2 a3 a4 a5 a6 a7 a8 a9 hv
    obtain ⟨r, e1, e2⟩ := h0 a0 a1 a2 a3 a4 a5 a6 a7 a8 a9 hv
    exact ⟨fun _ => r, e1, fun _ => e2⟩
/-! THE CLASS'S ROUNDS over a row of words -/
theorem rounds5 {A ρ : Type} {B : (Int32 → Int32 → (Nat → Int32) → (Nat → Int64) → (Nat → Int64) → Option ρ) → Int32 → Int32 → (Nat → Int32) → (Nat → Int64) → (Nat → Int64) → Option ρ} {k : (Nat → Int32) → (Nat → Int64) → (Nat → Int64) → Option ρ} (Rel : A → (Nat → Int32) → (Nat → Int64) → (Nat → Int64) → Prop) (Fin : A → (Nat → Int32) → (Nat → Int64) → (Nat → Int64) → Prop) (m : A → Nat)
    (h0 : ∀ rc j c h l, j < 1000 → B rc 0 (nI j) c h l = k c h l)
    (h1 : ∀ j a c h l, j < 1000 → Rel a c h l → ∃ ch a' c' h' l', (∀ rc, B rc 1 (nI j) c h l = rc (b01 ch) (nI (j + 1)) c' h' l') ∧ (ch = true → Rel a' c' h' l' ∧ m a' < m a) ∧ (ch = false → Fin a' c' h' l'))
    (N : Nat) (a0 : A) (c0 : Nat → Int32) (h00 l0 : Nat → Int64) (hR : Rel a0 c0 h00 l0) (hm : m a0 ≤ 900) (hN : 2000 < N) : ∃ a c h l, Fin a c h l ∧ itr5 B N 1 0 c0 h00 l0 = k c h l := by
  refine vlp5 (fun j f i c h l => i = nI j ∧ ((f = 1 ∧ ∃ a, Rel a c h l ∧ j + m a ≤ 900) ∨ (f = 0 ∧ ∃ a, Fin a c h l))) (fun o => ∃ a c h l, Fin a c h l ∧ o = k c h l) 950 ?_ ?_ N 1 0 c0 h00 l0 (by omega) ⟨rfl, Or.inl ⟨rfl, a0, hR, by omega⟩⟩
  · rintro j f i c h l hj ⟨rfl, ⟨rfl, a, ha, hja⟩ | ⟨rfl, a, ha⟩⟩
    · obtain ⟨ch, a', c', h', l', e1, e2, e3⟩ := h1 j a c h l (by omega) ha
      refine Or.inl ⟨b01 ch, nI (j + 1), c', h', l', ⟨rfl, ?_⟩, e1⟩
      cases ch with
      | true => obtain ⟨x1, x2⟩ := e2 rfl; exact Or.inl ⟨rfl, a', x1, by omega⟩
      | false => exact Or.inr ⟨rfl, a', e3 rfl⟩
    · exact Or.inr ⟨_, ⟨a, c, h, l, ha, rfl⟩, fun rc => h0 rc j c h l (by omega)⟩
  · rintro f i c h l ⟨rfl, ⟨rfl, a, ha, hja⟩ | ⟨rfl, a, ha⟩⟩
    · omega
    · exact ⟨_, ⟨a, c, h, l, ha, rfl⟩, fun rc => h0 rc 950 c h l (by omega)⟩
theorem nleL (k : Int32) (n : Nat) {j : Nat} (h : j < n) (e : k = nI n := by rfl) (hn : n < 2 ^ 31 := by decide) : ¬ k ≤ nI j := by rw [e]; exact nI_ge h hn
theorem leL (k : Int32) (n : Nat) {j : Nat} (h : n ≤ j) (hj : j < 2 ^ 31) (e : k = nI n := by rfl) : k ≤ nI j := by rw [e]; exact nI_le h hj
theorem ltL (k : Int32) (n : Nat) {j : Nat} (h : j < n) (e : k = nI n := by rfl) (hn : n < 2 ^ 31 := by decide) : nI j < k := by rw [e]; exact nI_lt h hn
theorem nltL (k : Int32) (n : Nat) {j : Nat} (h : n ≤ j) (hj : j < 2 ^ 31) (e : k = nI n := by rfl) : ¬ nI j < k := by rw [e]; exact nI_nlt h hj
theorem neL (k : Int32) (n : Nat) {j : Nat} (h : j ≠ n) (hj : j < 2 ^ 31) (e : k = nI n := by rfl) (hn : n < 2 ^ 31 := by decide) : ¬ nI j = k := by rw [e, nI_eq hj hn]; exact h
