/-! BITS AS SETS: x is below y when x ||| y = y -/
def sb (x y : Int32) : Prop := x ||| y = y
theorem sb_rfl (x : Int32) : sb x x := Int32.or_self
theorem sb_trans {x y z : Int32} (h1 : sb x y) (h2 : sb y z) : sb x z := by
  unfold sb at *
  rw [← h2, ← Int32.or_assoc, h1]
theorem sb_anti {x y : Int32} (h1 : sb x y) (h2 : sb y x) : x = y := by
  unfold sb at *
  rw [← h2, Int32.or_comm, h1]
theorem sb_or_l (x y : Int32) : sb x (x ||| y) := by
  unfold sb
  rw [← Int32.or_assoc, Int32.or_self]
theorem sb_or_r (x y : Int32) : sb y (x ||| y) := by
  rw [Int32.or_comm]; exact sb_or_l y x
theorem sb_or {x y z : Int32} (h1 : sb x z) (h2 : sb y z) : sb (x ||| y) z := by
  unfold sb at *
  rw [Int32.or_assoc, h2, h1]
theorem sb_zero (x : Int32) : sb 0 x := by
  unfold sb
  rw [Int32.or_comm, Int32.or_zero]
theorem or_of_sb {x y : Int32} (h : sb y x) : x ||| y = x := by rw [Int32.or_comm]; exact h
theorem sb_mono {x y x' y' : Int32} (h1 : sb x x') (h2 : sb y y') : sb (x ||| y) (x' ||| y') := sb_or (sb_trans h1 (sb_or_l _ _)) (sb_trans h2 (sb_or_r _ _))
-- how many bits
def pcR (b : Nat → Bool) : Nat → Nat
  | 0 => 0
  | n + 1 => pcR b n + (if b n = true then 1 else 0)
theorem pcR_le (b : Nat → Bool) : ∀ n, pcR b n ≤ n
  | 0 => Nat.le_refl _
  | n + 1 => by have := pcR_le b n; simp only [pcR]; split <;> omega
theorem pcR_mono {b c : Nat → Bool} (h : ∀ i, b i = true → c i = true) : ∀ n, pcR b n ≤ pcR c n
  | 0 => Nat.le_refl _
  | n + 1 => by
    have := pcR_mono h n
    simp only [pcR]
    by_cases hb : b n = true
    · rw [if_pos hb, if_pos (h n hb)]; omega
    · rw [if_neg hb]; omega
theorem pcR_lt {b c : Nat → Bool} (h : ∀ i, b i = true → c i = true) : ∀ (n i : Nat), i < n → c i = true → b i = false → pcR b n < pcR c n
  | 0, _, hi, _, _ => by omega
  | n + 1, i, hi, hc, hb => by
    simp only [pcR]
    by_cases e : i = n
    · subst e
      have := pcR_mono h i
      rw [if_pos hc, if_neg (by rw [hb]; decide)]; omega
    · have := pcR_lt h n i (by omega) hc hb
      by_cases hbn : b n = true
      · rw [if_pos hbn, if_pos (h n hbn)]; omega
      · rw [if_neg hbn]; omega
def pcI (x : Int32) : Nat := pcR (fun i => x.toBitVec.getLsbD i) 32
theorem pcI_le (x : Int32) : pcI x ≤ 32 := pcR_le _ _
theorem sb_bit {x y : Int32} (h : sb x y) (i : Nat) (hb : x.toBitVec.getLsbD i = true) : y.toBitVec.getLsbD i = true := by
  have e : y.toBitVec = (x ||| y).toBitVec := by rw [h]
  rw [e]
  show (x.toBitVec ||| y.toBitVec).getLsbD i = true
  rw [BitVec.getLsbD_or, hb]; rfl
theorem pcI_mono {x y : Int32} (h : sb x y) : pcI x ≤ pcI y := pcR_mono (fun i hb => sb_bit h i hb) 32
theorem pcI_lt {x y : Int32} (h : sb x y) (hne : x ≠ y) : pcI x < pcI y := by
  have : ∃ i, i < 32 ∧ y.toBitVec.getLsbD i = true ∧ x.toBitVec.getLsbD i = false := by
    refine Classical.byContradiction fun hno => hne ?_
    apply Int32.toBitVec_inj.mp
    apply BitVec.eq_of_getLsbD_eq
    intro i hi
    cases hx : x.toBitVec.getLsbD i with
    | true => rw [sb_bit h i hx]
    | false =>
      cases hy : y.toBitVec.getLsbD i with
      | false => rfl
      | true => exact absurd ⟨i, hi, hy, hx⟩ hno
  obtain ⟨i, h1, h2, h3⟩ := this
  exact pcR_lt (fun i hb => sb_bit h i hb) 32 i h1 h2 h3
/-- the bits that eight sets hold -/
def pc8 (f : Nat → Int32) : Nat → Nat
  | 0 => 0
  | n + 1 => pc8 f n + pcI (f n)
theorem pc8_le (f : Nat → Int32) : ∀ n, pc8 f n ≤ 32 * n
  | 0 => Nat.le_refl _
  | n + 1 => by have := pc8_le f n; have := pcI_le (f n); simp only [pc8]; omega
theorem pc8_mono {f g : Nat → Int32} : ∀ n, (∀ i, i < n → sb (f i) (g i)) → pc8 f n ≤ pc8 g n
  | 0, _ => Nat.le_refl _
  | n + 1, h => by
    have := pc8_mono n (fun i hi => h i (by omega))
    have := pcI_mono (h n (by omega))
    simp only [pc8]; omega
theorem pc8_lt {f g : Nat → Int32} : ∀ (n j : Nat), (∀ i, i < n → sb (f i) (g i)) → j < n → f j ≠ g j → pc8 f n < pc8 g n
  | 0, _, _, hj, _ => by omega
  | n + 1, j, h, hj, hne => by
    simp only [pc8]
    have h1 := pcI_mono (h n (by omega))
    by_cases e : j = n
    · subst e
      have := pc8_mono j (fun i hi => h i (by omega))
      have := pcI_lt (h j (by omega)) hne
      omega
    · have := pc8_lt n j (fun i hi => h i (by omega)) (by omega) hne
      omega
-- a bit
def bitI (j : Nat) : Int32 := (1 : Int32) <<< (nI j &&& (31 : Int32))
def tb (E : Int32) (j : Nat) : Bool := ((E >>> (nI j &&& (31 : Int32))) &&& (1 : Int32)) == 1
theorem tb_lsb : ∀ (E : Int32) (j : Nat), j < 31 → tb E j = E.toBitVec.getLsbD j := by
  intro E j hj
  unfold tb
  have hs := sh_hs j (by omega)
  have e1 : (E >>> (nI j &&& (31 : Int32))).toBitVec = E.toBitVec.sshiftRight j := by
    rw [Int32.toBitVec_shiftRight]
    show E.toBitVec.sshiftRight' _ = _
    rw [BitVec.sshiftRight', hs]
  have e2 : ((E >>> (nI j &&& (31 : Int32))) &&& (1 : Int32)).toBitVec = (E.toBitVec.sshiftRight j) &&& 1#32 := by
    rw [Int32.toBitVec_and, e1]; rfl
  have hg : (E.toBitVec.sshiftRight j).getLsbD 0 = E.toBitVec.getLsbD j := by
    rw [BitVec.getLsbD_sshiftRight, if_pos (by omega)]; simp
  rw [BitVec.and_one_eq_setWidth_ofBool_getLsbD, hg] at e2
  cases hb : E.toBitVec.getLsbD j with
  | true =>
    rw [hb] at e2
    rw [beq_iff_eq]
    exact Int32.toBitVec_inj.mp (e2.trans (by decide))
  | false =>
    rw [hb] at e2
    rw [beq_eq_false_iff_ne]
    intro e
    rw [e] at e2
    exact absurd e2 (by decide)
theorem tb_mono {E E' : Int32} (h : sb E E') {j : Nat} (hj : j < 31) (hb : tb E j = true) : tb E' j = true := by
  rw [tb_lsb _ _ hj] at hb ⊢
  exact sb_bit h j hb
theorem tb_bitI_dec : ∀ i, i < 31 → ∀ j, j < 31 → tb (bitI i) j = (i == j) := by decide +kernel
theorem lsb_bitI_dec : ∀ i, i < 31 → ∀ j, j < 32 → (bitI i).toBitVec.getLsbD j = (i == j) := by decide +kernel
theorem sb_bitI_iff {E : Int32} {j : Nat} (hj : j < 31) : sb (bitI j) E ↔ tb E j = true := by
  constructor
  · intro h
    exact tb_mono h hj (by rw [tb_bitI_dec j hj j hj]; simp)
  · intro h
    rw [tb_lsb _ _ hj] at h
    unfold sb
    apply Int32.toBitVec_inj.mp
    apply BitVec.eq_of_getLsbD_eq
    intro i hi
    show ((bitI j).toBitVec ||| E.toBitVec).getLsbD i = _
    rw [BitVec.getLsbD_or, lsb_bitI_dec j hj i hi]
    by_cases e : j = i
    · subst e; rw [h]; simp
    · simp [e]
