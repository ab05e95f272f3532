/-! WORDS: at most forty terminals, three bits each, in two halves -/
def valN : List Nat → Nat
  | [] => 0
  | t :: r => t * 8 ^ r.length + valN r
def t8 (w : List Nat) : Prop := ∀ t ∈ w, t < 8
theorem valN_lt : ∀ (w : List Nat), t8 w → valN w < 8 ^ w.length
  | [], _ => by simp [valN]
  | t :: r, h => by
    have h1 := valN_lt r (fun x hx => h x (List.mem_cons_of_mem _ hx))
    have h2 : t < 8 := h t List.mem_cons_self
    simp only [valN, List.length_cons, Nat.pow_succ]
    have : t * 8 ^ r.length ≤ 7 * 8 ^ r.length := Nat.mul_le_mul_right _ (by omega)
    omega
theorem valN_app : ∀ (u v : List Nat), valN (u ++ v) = valN u * 8 ^ v.length + valN v
  | [], v => by simp [valN]
  | t :: r, v => by
    have ih := valN_app r v
    simp only [List.cons_append, valN, List.length_append, ih, Nat.pow_add]
    rw [Nat.add_mul, Nat.mul_assoc, Nat.add_assoc]
def wsum (wt : Nat → Nat) : List Nat → Nat
  | [] => 0
  | t :: r => wt t + wsum wt r
theorem wsum_app (wt : Nat → Nat) : ∀ (u v : List Nat), wsum wt (u ++ v) = wsum wt u + wsum wt v
  | [], v => by simp [wsum]
  | t :: r, v => by simp only [List.cons_append, wsum, wsum_app wt r v]; omega
theorem wsum_le {wt : Nat → Nat} (hw : ∀ t, t < 8 → wt t ≤ 9) : ∀ (w : List Nat), t8 w → wsum wt w ≤ 9 * w.length
  | [], _ => by simp [wsum]
  | t :: r, h => by
    have h1 := wsum_le hw r (fun x hx => h x (List.mem_cons_of_mem _ hx))
    have h2 := hw t (h t List.mem_cons_self)
    simp only [wsum, List.length_cons]
    omega
abbrev wO : Type := Option (List Nat)
def okW (o : wO) : Prop := match o with
  | none => True
  | some w => t8 w ∧ w.length ≤ 40
def cN (wt : Nat → Nat) (o : wO) : Nat := match o with
  | none => 41984
  | some w => w.length * 1024 + wsum wt w
def vN (o : wO) : Nat := match o with
  | none => 0
  | some w => valN w
def hI (o : wO) : Int64 := lN (vN o / 2 ^ 60)
def lI (o : wO) : Int64 := lN (vN o % 2 ^ 60)
/-- two words behind one another, if there is room -/
def cat (a b : wO) : wO := match a, b with
  | some u, some v => if (u ++ v).length ≤ 40 then some (u ++ v) else none
  | _, _ => none
/-- the order as one number -/
def kN (wt : Nat → Nat) (o : wO) : Nat := cN wt o * 2 ^ 120 + vN o
theorem p860 : (8 : Nat) ^ 20 = 2 ^ 60 := by decide +kernel
theorem p8120 : (8 : Nat) ^ 40 = 2 ^ 120 := by decide +kernel
theorem vN_lt {o : wO} (h : okW o) : vN o < 2 ^ 120 := by
  cases o with
  | none => exact Nat.two_pow_pos 120
  | some w =>
    have h1 := valN_lt w h.1
    have h2 : 8 ^ w.length ≤ 8 ^ 40 := Nat.pow_le_pow_right (by decide) h.2
    rw [p8120] at h2
    exact Nat.lt_of_lt_of_le h1 h2
theorem cN_le {wt : Nat → Nat} (hw : ∀ t, t < 8 → wt t ≤ 9) {o : wO} (h : okW o) : cN wt o ≤ 41984 ∧ (o ≠ none → cN wt o < 41984) := by
  cases o with
  | none => exact ⟨Nat.le_refl _, fun h => absurd rfl h⟩
  | some w =>
    have h1 := wsum_le hw w h.1
    have h2 := h.2
    simp only [cN]
    exact ⟨by omega, fun _ => by omega⟩
theorem cN_len {wt : Nat → Nat} (hw : ∀ t, t < 8 → wt t ≤ 9) {w : List Nat} (h : okW (some w)) : cN wt (some w) / 1024 = w.length := by
  have h1 := wsum_le hw w h.1
  have h2 := h.2
  simp only [cN]
  omega
-- Int64 by Nat
theorem lN_toNat (a : Nat) : (lN a).toBitVec = BitVec.ofNat 64 a := rfl
theorem l63 : ∀ k, k < 64 → ((nI k).toInt64 &&& (63 : Int64)).toBitVec.smod 64 = BitVec.ofNat 64 k := by decide +kernel
theorem lshl_N (a : Nat) {k : Nat} (hk : k < 64) : lN a <<< ((nI k).toInt64 &&& (63 : Int64)) = lN (a * 2 ^ k) := by
  apply Int64.toBitVec_inj.mp
  show (lN a).toBitVec <<< (((nI k).toInt64 &&& (63 : Int64)).toBitVec.smod 64) = _
  rw [l63 k hk, lN_toNat, lN_toNat]
  apply BitVec.eq_of_toNat_eq
  have e : (BitVec.ofNat 64 k).toNat = k := by simp; omega
  rw [BitVec.shiftLeft_eq', BitVec.toNat_shiftLeft, e, Nat.shiftLeft_eq]
  simp only [BitVec.toNat_ofNat]
  rw [Nat.mod_mul_mod]
theorem lshr_N {a : Nat} (ha : a < 2 ^ 63) {k : Nat} (hk : k < 64) : lN a >>> ((nI k).toInt64 &&& (63 : Int64)) = lN (a / 2 ^ k) := by
  apply Int64.toBitVec_inj.mp
  show (lN a).toBitVec.sshiftRight' (((nI k).toInt64 &&& (63 : Int64)).toBitVec.smod 64) = _
  rw [l63 k hk, lN_toNat, lN_toNat, BitVec.sshiftRight']
  have e : (BitVec.ofNat 64 k).toNat = k := by simp; omega
  rw [e]
  have hm : (BitVec.ofNat 64 a).msb = false := by
    rw [BitVec.msb_eq_decide]
    simp
    omega
  rw [BitVec.sshiftRight_eq_of_msb_false hm]
  apply BitVec.eq_of_toNat_eq
  have hd : a / 2 ^ k < 2 ^ 64 := Nat.lt_of_le_of_lt (Nat.div_le_self _ _) (by omega)
  rw [BitVec.toNat_ushiftRight, Nat.shiftRight_eq_div_pow]
  simp only [BitVec.toNat_ofNat]
  rw [Nat.mod_eq_of_lt (by omega), Nat.mod_eq_of_lt hd]
theorem lor_N (a b : Nat) : lN a ||| lN b = lN (a ||| b) := by
  apply Int64.toBitVec_inj.mp
  show (lN a).toBitVec ||| (lN b).toBitVec = _
  rw [lN_toNat, lN_toNat, lN_toNat, BitVec.ofNat_or]
theorem lor_add {a b k : Nat} (hb : b < 2 ^ k) : lN (a * 2 ^ k) ||| lN b = lN (a * 2 ^ k + b) := by
  rw [lor_N]
  congr 1
  rw [← Nat.shiftLeft_eq, Nat.shiftLeft_add_eq_or_of_lt hb]
theorem land_N (a : Nat) : lN a &&& (1152921504606846975 : Int64) = lN (a % 2 ^ 60) := by
  have e : (1152921504606846975 : Int64) = lN (2 ^ 60 - 1) := by decide +kernel
  rw [e]
  apply Int64.toBitVec_inj.mp
  show (lN a).toBitVec &&& (lN (2 ^ 60 - 1)).toBitVec = _
  rw [lN_toNat, lN_toNat, lN_toNat, ← BitVec.ofNat_and, Nat.and_two_pow_sub_one_eq_mod]
