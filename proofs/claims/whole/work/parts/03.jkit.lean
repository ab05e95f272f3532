/-! THE WALK'S OWN JUDGEMENT: jo. A machine state (place in the code, locals, stack, world) beside what is left of a pure program O: 'if O comes to some x, the machine comes to its end with x' -/
abbrev jC : Type := Program × Launch × Env × Room × State × MethodId × Array Value × List Frame × Method × Code × va_G × (Nat → Prop)
abbrev jTC : Type := ClassId × ClassId × ClassId
abbrev j_l (X : jC) : Launch := X.2.1
abbrev j_R (X : jC) : Room := X.2.2.2.1
abbrev j_s (X : jC) : State := X.2.2.2.2.1
abbrev j_m (X : jC) : MethodId := X.2.2.2.2.2.1
abbrev j_a (X : jC) : Array Value := X.2.2.2.2.2.2.1
abbrev j_b (X : jC) : List Frame := X.2.2.2.2.2.2.2.1
abbrev j_me (X : jC) : Method := X.2.2.2.2.2.2.2.2.1
abbrev j_c (X : jC) : Code := X.2.2.2.2.2.2.2.2.2.1
abbrev j_D (X : jC) : va_G := X.2.2.2.2.2.2.2.2.2.2.1
abbrev j_A (X : jC) : Nat → Prop := X.2.2.2.2.2.2.2.2.2.2.2
abbrev jT (tc : jTC) : List (ClassId × FieldType) := [(tc.1, .int), (tc.2.1, .long), (tc.2.2, .object "PredictiveGrammar$Rules")]
/-- what holds all through a method's body -/
def jx (X : jC) (cc : ByteArray) (nL : Nat) (own : String) (ret : Option FieldType) (tc : jTC) (rm : Room) : Prop :=
  X.1.tables.exec = Jvm.exec ∧ (j_c X).code = cc ∧ (j_c X).maxLocals = nL ∧ (j_s X).vm.findClass own = some (j_m X).cls ∧ (∀ w ∈ jtb, w.before (j_a X) (j_s X) = true) ∧ va_K (j_D X) vwCl (jT tc) (j_s X) ∧ (j_me X).sig.returnType = ret ∧ (j_me X).locks = false ∧ (∀ q, (j_s X).heap.size ≤ q → j_A X q) ∧ j_R X = rm ∧ jNw (j_s X)
def jg (X : jC) (nL : Nat) (kn : Nat × Nat) (Q : State → Prop) (ws : va_W) (pc : Nat) (lv : List (Nat × Value)) (st : List Value) : Prop :=
  ∀ (H : Heap) (locs : List Loc) (ls : Array Slot), va_P (j_D X) vwCl ws H → va_D (j_A X) ws → va_S (j_A X) (j_s X).heap H locs → lv_has ls nL lv → W X.1 (j_l X) X.2.2.1 (j_R X) (j_s X) (j_m X) (j_a X) (j_b X) (j_me X) (j_c X) H locs kn.1 kn.2 Q (F0 (j_m X) pc ls st)
def jo {ρ : Type} (X : jC) (nL : Nat) (kn : Nat × Nat) (Q : ρ → State → Prop) (O : Option ρ) (ws : va_W) (pc : Nat) (lv : List (Nat × Value)) (st : List Value) : Prop := ∀ o, O = some o → jg X nL kn (Q o) ws pc lv st
-- the decode facts, in groups
def jdk (cc : ByteArray) (pc : Nat) (v : Int32) (pc' : Nat) : Prop := (∃ n, decode cc pc = .ok (.iconst n, 1) ∧ Int32.ofInt n = v ∧ pc + 1 = pc') ∨ (∃ n, decode cc pc = .ok (.bipush n, 2) ∧ (Int8.ofInt n).toInt32 = v ∧ pc + 2 = pc') ∨ (∃ n, decode cc pc = .ok (.sipush n, 3) ∧ (Int16.ofInt n).toInt32 = v ∧ pc + 3 = pc')
def jdi (cc : ByteArray) (pc i pc' : Nat) : Prop := (∃ k : Fin 4, decode cc pc = .ok (.iload_n k, 1) ∧ (k : Nat) = i ∧ pc + 1 = pc') ∨ (decode cc pc = .ok (.iload i, 2) ∧ pc + 2 = pc')
def jda (cc : ByteArray) (pc i pc' : Nat) : Prop := (∃ k : Fin 4, decode cc pc = .ok (.aload_n k, 1) ∧ (k : Nat) = i ∧ pc + 1 = pc') ∨ (decode cc pc = .ok (.aload i, 2) ∧ pc + 2 = pc')
def jdl (cc : ByteArray) (pc i pc' : Nat) : Prop := (∃ k : Fin 4, decode cc pc = .ok (.lload_n k, 1) ∧ (k : Nat) = i ∧ pc + 1 = pc') ∨ (decode cc pc = .ok (.lload i, 2) ∧ pc + 2 = pc')
def jds (cc : ByteArray) (pc i pc' : Nat) : Prop := (∃ k : Fin 4, decode cc pc = .ok (.istore_n k, 1) ∧ (k : Nat) = i ∧ pc + 1 = pc') ∨ (decode cc pc = .ok (.istore i, 2) ∧ pc + 2 = pc')
abbrev jd (cc : ByteArray) (pc : Nat) (i : Instr) (n pc' : Nat) : Prop := decode cc pc = .ok (i, n) ∧ pc + n = pc'
abbrev jdb (cc : ByteArray) (pc : Nat) (i : Instr) (off : Int) (tgt pc' : Nat) : Prop := decode cc pc = .ok (i, 3) ∧ (pc : Int) + off = (tgt : Int) ∧ pc + 3 = pc'
-- the pure program's words
def lt_ {α ρ : Type} (e : α) (K : α → Option ρ) : Option ρ := K e
def jn_ {V ρ : Type} (K : V → Option ρ) (B : (V → Option ρ) → Option ρ) : Option ρ := B K
def inb (i : Int32) (n : Nat) : Bool := decide (0 ≤ i.toInt ∧ i.toInt < (n : Int))
def ag (f : Nat → Int32) (n : Nat) (i : Int32) : Option Int32 := if inb i n then some (f i.toNatClampNeg) else none
def as_ (f : Nat → Int32) (n : Nat) (i x : Int32) : Option (Nat → Int32) := if inb i n then some (upd f i.toNatClampNeg x) else none
def agL (f : Nat → Int64) (n : Nat) (i : Int32) : Option Int64 := if inb i n then some (f i.toNatClampNeg) else none
def asL (f : Nat → Int64) (n : Nat) (i : Int32) (x : Int64) : Option (Nat → Int64) := if inb i n then some (vp_updL f i.toNatClampNeg x) else none
def gz {ρ : Type} (v : Int32) (O : Option ρ) : Option ρ := if v = 0 ∨ v = 1 then O else none
def itr {V ρ : Type} (B : (V → Option ρ) → V → Option ρ) : Nat → V → Option ρ
  | 0, _ => none
  | n + 1, v => B (itr B n) v
theorem inb_vp {i : Int32} {n : Nat} (h : inb i n = true) : vp_in i n := vp_in_iff.mpr (of_decide_eq_true h)
section JK
variable {ρ : Type} {X : jC} {cc : ByteArray} {nL : Nat} {own : String} {ret : Option FieldType} {tc : jTC} {rm : Room} {kn : Nat × Nat} {Q : ρ → State → Prop} {O : Option ρ} {ws : va_W} {pc pc' tgt : Nat} {lv : List (Nat × Value)} {st : List Value}
theorem j_none : jo X nL kn Q none ws pc lv st := fun o h => by cases h
theorem j_leti {e : Int32} {K : Int32 → Option ρ} (h : ∀ x, jo X nL kn Q (K x) ws pc lv (.int x :: st)) : jo X nL kn Q (lt_ e K) ws pc lv (.int e :: st) := h e
theorem j_letl {e : Int64} {K : Int64 → Option ρ} (h : ∀ x, jo X nL kn Q (K x) ws pc lv (.long x :: st)) : jo X nL kn Q (lt_ e K) ws pc lv (.long e :: st) := h e
theorem j_join {V : Type} {K : V → Option ρ} {B : (V → Option ρ) → Option ρ} (pcj : Nat) (wf : V → va_W) (lf : V → List (Nat × Value)) (sf : V → List Value) (hK : ∀ v, jo X nL kn Q (K v) (wf v) pcj (lf v) (sf v)) (hB : ∀ k, (∀ v, jo X nL kn Q (k v) (wf v) pcj (lf v) (sf v)) → jo X nL kn Q (B k) ws pc lv st) : jo X nL kn Q (jn_ K B) ws pc lv st := hB K hK
theorem j_loop {V : Type} {B : (V → Option ρ) → V → Option ρ} (wf : V → va_W) (lf : V → List (Nat × Value)) (h : ∀ rec, (∀ v, jo X nL kn Q (rec v) (wf v) pc (lf v) []) → ∀ v, jo X nL kn Q (B rec v) (wf v) pc (lf v) []) : ∀ n v, jo X nL kn Q (itr B n v) (wf v) pc (lf v) [] := by
  intro n
  induction n with
  | zero => intro v; exact j_none
  | succ n ih => intro v; exact h (itr B n) ih v
theorem j_sub {lv' : List (Nat × Value)} (ks : List Nat) (hk : lv_pick lv ks = lv') (h : jo X nL kn Q O ws pc lv' st) : jo X nL kn Q O ws pc lv st := fun o ho H locs ls hP hD hS hl => h o ho H locs ls hP hD hS (lv_sub hl ks hk)
theorem j_gz {v : Int32} (h : (v = 0 ∨ v = 1) → jo X nL kn Q O ws pc lv st) : jo X nL kn Q (gz v O) ws pc lv st := by
  unfold gz
  split
  · rename_i hv; exact h hv
  · exact j_none
theorem j_const (C : jx X cc nL own ret tc rm) {v : Int32} (hd : jdk cc pc v pc') (h : jo X nL kn Q O ws pc' lv (.int v :: st)) : jo X nL kn Q O ws pc lv st := by
  intro o ho H locs ls hP hD hS hl
  rcases hd with ⟨n, h1, h2, rfl⟩ | ⟨n, h1, h2, rfl⟩ | ⟨n, h1, h2, rfl⟩
  · exact lv_iconst C.1 C.2.1 h1 h2 (h o ho H locs ls hP hD hS hl)
  · exact lv_bipush C.1 C.2.1 h1 h2 (h o ho H locs ls hP hD hS hl)
  · exact lv_sipush C.1 C.2.1 h1 h2 (h o ho H locs ls hP hD hS hl)
theorem j_ldc (C : jx X cc nL own ret tc rm) {v : Int32} {idx : Nat} (hd : jd cc pc (.ldc idx) 2 pc') (hc : Cond.constant own idx v ∈ jtb) (h : jo X nL kn Q O ws pc' lv (.int v :: st)) : jo X nL kn Q O ws pc lv st := by
  intro o ho H locs ls hP hD hS hl
  obtain ⟨h1, rfl⟩ := hd
  exact lv_ldc C.1 C.2.1 C.2.2.2.1 (C.2.2.2.2.1 _ hc) h1 (h o ho H locs ls hP hD hS hl)
theorem j_ldcw (C : jx X cc nL own ret tc rm) {v : Int32} {idx : Nat} (hd : jd cc pc (.ldc_w idx) 3 pc') (hc : Cond.constant own idx v ∈ jtb) (h : jo X nL kn Q O ws pc' lv (.int v :: st)) : jo X nL kn Q O ws pc lv st := by
  intro o ho H locs ls hP hD hS hl
  obtain ⟨h1, rfl⟩ := hd
  exact lv_ldcw C.1 C.2.1 C.2.2.2.1 (C.2.2.2.2.1 _ hc) h1 (h o ho H locs ls hP hD hS hl)
theorem j_ldc2 (C : jx X cc nL own ret tc rm) {v : Int64} {idx : Nat} (hd : jd cc pc (.ldc2_w idx) 3 pc') (hc : Cond.constantLong own idx v ∈ jtb) (h : jo X nL kn Q O ws pc' lv (.long v :: st)) : jo X nL kn Q O ws pc lv st := by
  intro o ho H locs ls hP hD hS hl
  obtain ⟨h1, rfl⟩ := hd
  exact lv_ldc2 C.1 C.2.1 C.2.2.2.1 (C.2.2.2.2.1 _ hc) h1 (h o ho H locs ls hP hD hS hl)
theorem j_lconst (C : jx X cc nL own ret tc rm) {n : Fin 2} {v : Int64} (hd : jd cc pc (.lconst n) 1 pc') (hv : Int64.ofNat (n : Nat) = v) (h : jo X nL kn Q O ws pc' lv (.long v :: st)) : jo X nL kn Q O ws pc lv st := by
  intro o ho H locs ls hP hD hS hl
  obtain ⟨h1, rfl⟩ := hd
  exact lv_lconst C.1 C.2.1 h1 hv (h o ho H locs ls hP hD hS hl)
theorem j_iload (C : jx X cc nL own ret tc rm) {i : Nat} {x : Int32} (hd : jdi cc pc i pc') (k : Nat) (hk : lv[k]? = some (i, .int x)) (h : jo X nL kn Q O ws pc' lv (.int x :: st)) : jo X nL kn Q O ws pc lv st := by
  intro o ho H locs ls hP hD hS hl
  rcases hd with ⟨n, h1, h2, rfl⟩ | ⟨h1, rfl⟩
  · exact lv_iload_n C.1 C.2.1 h1 h2 (lv_at hl k hk) (h o ho H locs ls hP hD hS hl)
  · exact lv_iload C.1 C.2.1 h1 (lv_at hl k hk) (h o ho H locs ls hP hD hS hl)
theorem j_aload (C : jx X cc nL own ret tc rm) {i x : Nat} (hd : jda cc pc i pc') (k : Nat) (hk : lv[k]? = some (i, .ref x)) (h : jo X nL kn Q O ws pc' lv (.ref x :: st)) : jo X nL kn Q O ws pc lv st := by
  intro o ho H locs ls hP hD hS hl
  rcases hd with ⟨n, h1, h2, rfl⟩ | ⟨h1, rfl⟩
  · exact lv_aload_n C.1 C.2.1 h1 h2 (lv_at hl k hk) (h o ho H locs ls hP hD hS hl)
  · exact lv_aload C.1 C.2.1 h1 (lv_at hl k hk) (h o ho H locs ls hP hD hS hl)
theorem j_lload (C : jx X cc nL own ret tc rm) {i : Nat} {x : Int64} (hd : jdl cc pc i pc') (k : Nat) (hk : lv[k]? = some (i, .long x)) (h : jo X nL kn Q O ws pc' lv (.long x :: st)) : jo X nL kn Q O ws pc lv st := by
  intro o ho H locs ls hP hD hS hl
  rcases hd with ⟨n, h1, h2, rfl⟩ | ⟨h1, rfl⟩
  · exact lv_lload_n C.1 C.2.1 h1 h2 (lv_at hl k hk) (h o ho H locs ls hP hD hS hl)
  · exact lv_lload C.1 C.2.1 h1 (lv_at hl k hk) (h o ho H locs ls hP hD hS hl)
theorem j_istore (C : jx X cc nL own ret tc rm) {i : Nat} {x : Int32} {lv' : List (Nat × Value)} (hd : jds cc pc i pc') (hn : i < nL) (hl' : (i, Value.int x) :: lv.filter (fun q => !(q.1 == i) && !(q.1 + 1 == i && q.2.category == 2)) = lv') (h : jo X nL kn Q O ws pc' lv' st) : jo X nL kn Q O ws pc lv (.int x :: st) := by
  intro o ho H locs ls hP hD hS hl
  rcases hd with ⟨n, h1, h2, rfl⟩ | ⟨h1, rfl⟩
  · exact lv_istore_n C.1 C.2.1 h1 h2 hl hn hl' (fun ls' hl2 => h o ho H locs ls' hP hD hS hl2)
  · exact lv_istore C.1 C.2.1 h1 hl hn hl' (fun ls' hl2 => h o ho H locs ls' hP hD hS hl2)
theorem j_lstore (C : jx X cc nL own ret tc rm) {i : Nat} {x : Int64} {lv' : List (Nat × Value)} (hd : jd cc pc (.lstore i) 2 pc') (hn : i + 1 < nL) (hl' : (i, Value.long x) :: lv.filter (fun q => !(q.1 == i) && (!(q.1 == i + 1) && !(q.1 + 1 == i && q.2.category == 2))) = lv') (h : jo X nL kn Q O ws pc' lv' st) : jo X nL kn Q O ws pc lv (.long x :: st) := by
  intro o ho H locs ls hP hD hS hl
  obtain ⟨h1, rfl⟩ := hd
  exact lv_lstore C.1 C.2.1 h1 hl hn hl' (fun ls' hl2 => h o ho H locs ls' hP hD hS hl2)
theorem j_iinc (C : jx X cc nL own ret tc rm) {i : Nat} {n : Int} {x v : Int32} {lv' : List (Nat × Value)} (hd : jd cc pc (.iinc i n) 3 pc') (k : Nat) (hk : lv[k]? = some (i, .int x)) (hv : x + Int32.ofInt n = v) (hn : i < nL) (hl' : (i, Value.int v) :: lv.filter (fun q => !(q.1 == i) && !(q.1 + 1 == i && q.2.category == 2)) = lv') (h : jo X nL kn Q O ws pc' lv' st) : jo X nL kn Q O ws pc lv st := by
  intro o ho H locs ls hP hD hS hl
  obtain ⟨h1, rfl⟩ := hd
  exact lv_iinc C.1 C.2.1 h1 hl hk hv hn hl' (fun ls' hl2 => h o ho H locs ls' hP hD hS hl2)
theorem j_iincN (C : jx X cc nL own ret tc rm) {i : Nat} {n : Int} {x c : Int32} {K : Int32 → Option ρ} (lf : Int32 → List (Nat × Value)) (hd : jd cc pc (.iinc i n) 3 pc') (k : Nat) (hk : lv[k]? = some (i, .int x)) (hc : Int32.ofInt n = c) (hn : i < nL) (hl' : ∀ v, (i, Value.int v) :: lv.filter (fun q => !(q.1 == i) && !(q.1 + 1 == i && q.2.category == 2)) = lf v) (h : ∀ v, jo X nL kn Q (K v) ws pc' (lf v) st) : jo X nL kn Q (lt_ (x + c) K) ws pc lv st := j_iinc C hd k hk (by rw [hc]) hn (hl' _) (h _)
theorem j_goto (C : jx X cc nL own ret tc rm) {off : Int} (hd : jdb cc pc (.goto off) off tgt pc') (h : jo X nL kn Q O ws tgt lv st) : jo X nL kn Q O ws pc lv st := fun o ho H locs ls hP hD hS hl => lv_goto C.1 C.2.1 hd.1 hd.2.1 (h o ho H locs ls hP hD hS hl)
theorem j_dup (C : jx X cc nL own ret tc rm) {v : Value} (hd : jd cc pc .dup 1 pc') (hv : v.category = 1) (h : jo X nL kn Q O ws pc' lv (v :: v :: st)) : jo X nL kn Q O ws pc lv (v :: st) := by
  intro o ho H locs ls hP hD hS hl
  obtain ⟨h1, rfl⟩ := hd
  exact lv_dup C.1 C.2.1 h1 hv (h o ho H locs ls hP hD hS hl)
theorem j_dup2 (C : jx X cc nL own ret tc rm) {v w : Value} (hd : jd cc pc .dup2 1 pc') (hv : v.category = 1) (hw : w.category = 1) (h : jo X nL kn Q O ws pc' lv (v :: w :: v :: w :: st)) : jo X nL kn Q O ws pc lv (v :: w :: st) := by
  intro o ho H locs ls hP hD hS hl
  obtain ⟨h1, rfl⟩ := hd
  exact lv_dup2_11 C.1 C.2.1 h1 hv hw (h o ho H locs ls hP hD hS hl)
theorem j_pop (C : jx X cc nL own ret tc rm) {v : Value} (hd : jd cc pc .pop 1 pc') (hv : v.category = 1) (h : jo X nL kn Q O ws pc' lv st) : jo X nL kn Q O ws pc lv (v :: st) := by
  intro o ho H locs ls hP hD hS hl
  obtain ⟨h1, rfl⟩ := hd
  exact lv_pop C.1 C.2.1 h1 hv (h o ho H locs ls hP hD hS hl)
theorem j_iadd (C : jx X cc nL own ret tc rm) {x y : Int32} (hd : jd cc pc .iadd 1 pc') (h : jo X nL kn Q O ws pc' lv (.int (x + y) :: st)) : jo X nL kn Q O ws pc lv (.int y :: .int x :: st) := by
  intro o ho H locs ls hP hD hS hl
  obtain ⟨h1, rfl⟩ := hd
  exact lv_iadd C.1 C.2.1 h1 (h o ho H locs ls hP hD hS hl)
theorem j_isub (C : jx X cc nL own ret tc rm) {x y : Int32} (hd : jd cc pc .isub 1 pc') (h : jo X nL kn Q O ws pc' lv (.int (x - y) :: st)) : jo X nL kn Q O ws pc lv (.int y :: .int x :: st) := by
  intro o ho H locs ls hP hD hS hl
  obtain ⟨h1, rfl⟩ := hd
  exact lv_isub C.1 C.2.1 h1 (h o ho H locs ls hP hD hS hl)
theorem j_imul (C : jx X cc nL own ret tc rm) {x y : Int32} (hd : jd cc pc .imul 1 pc') (h : jo X nL kn Q O ws pc' lv (.int (x * y) :: st)) : jo X nL kn Q O ws pc lv (.int y :: .int x :: st) := by
  intro o ho H locs ls hP hD hS hl
  obtain ⟨h1, rfl⟩ := hd
  exact lv_imul C.1 C.2.1 h1 (h o ho H locs ls hP hD hS hl)
theorem j_iand (C : jx X cc nL own ret tc rm) {x y : Int32} (hd : jd cc pc .iand 1 pc') (h : jo X nL kn Q O ws pc' lv (.int (x &&& y) :: st)) : jo X nL kn Q O ws pc lv (.int y :: .int x :: st) := by
  intro o ho H locs ls hP hD hS hl
  obtain ⟨h1, rfl⟩ := hd
  exact lv_iand C.1 C.2.1 h1 (h o ho H locs ls hP hD hS hl)
theorem j_ior (C : jx X cc nL own ret tc rm) {x y : Int32} (hd : jd cc pc .ior 1 pc') (h : jo X nL kn Q O ws pc' lv (.int (x ||| y) :: st)) : jo X nL kn Q O ws pc lv (.int y :: .int x :: st) := by
  intro o ho H locs ls hP hD hS hl
  obtain ⟨h1, rfl⟩ := hd
  exact lv_ior C.1 C.2.1 h1 (h o ho H locs ls hP hD hS hl)
theorem j_ixor (C : jx X cc nL own ret tc rm) {x y : Int32} (hd : jd cc pc .ixor 1 pc') (h : jo X nL kn Q O ws pc' lv (.int (x ^^^ y) :: st)) : jo X nL kn Q O ws pc lv (.int y :: .int x :: st) := by
  intro o ho H locs ls hP hD hS hl
  obtain ⟨h1, rfl⟩ := hd
  exact lv_ixor C.1 C.2.1 h1 (h o ho H locs ls hP hD hS hl)
theorem j_ishl (C : jx X cc nL own ret tc rm) {x y : Int32} (hd : jd cc pc .ishl 1 pc') (h : jo X nL kn Q O ws pc' lv (.int (x <<< (y &&& 31)) :: st)) : jo X nL kn Q O ws pc lv (.int y :: .int x :: st) := by
  intro o ho H locs ls hP hD hS hl
  obtain ⟨h1, rfl⟩ := hd
  exact lv_ishl C.1 C.2.1 h1 (h o ho H locs ls hP hD hS hl)
theorem j_ishr (C : jx X cc nL own ret tc rm) {x y : Int32} (hd : jd cc pc .ishr 1 pc') (h : jo X nL kn Q O ws pc' lv (.int (x >>> (y &&& 31)) :: st)) : jo X nL kn Q O ws pc lv (.int y :: .int x :: st) := by
  intro o ho H locs ls hP hD hS hl
  obtain ⟨h1, rfl⟩ := hd
  exact lv_ishr C.1 C.2.1 h1 (h o ho H locs ls hP hD hS hl)
theorem j_idiv (C : jx X cc nL own ret tc rm) {x y : Int32} (hd : jd cc pc .idiv 1 pc') (hne : ¬ y = 0) (h : jo X nL kn Q O ws pc' lv (.int (x / y) :: st)) : jo X nL kn Q O ws pc lv (.int y :: .int x :: st) := by
  intro o ho H locs ls hP hD hS hl
  obtain ⟨h1, rfl⟩ := hd
  exact lv_idiv C.1 C.2.1 h1 hne (h o ho H locs ls hP hD hS hl)
theorem j_irem (C : jx X cc nL own ret tc rm) {x y : Int32} (hd : jd cc pc .irem 1 pc') (hne : ¬ y = 0) (h : jo X nL kn Q O ws pc' lv (.int (x - x / y * y) :: st)) : jo X nL kn Q O ws pc lv (.int y :: .int x :: st) := by
  intro o ho H locs ls hP hD hS hl
  obtain ⟨h1, rfl⟩ := hd
  exact lv_irem C.1 C.2.1 h1 hne (h o ho H locs ls hP hD hS hl)
theorem j_land (C : jx X cc nL own ret tc rm) {x y : Int64} (hd : jd cc pc .land 1 pc') (h : jo X nL kn Q O ws pc' lv (.long (x &&& y) :: st)) : jo X nL kn Q O ws pc lv (.long y :: .long x :: st) := by
  intro o ho H locs ls hP hD hS hl
  obtain ⟨h1, rfl⟩ := hd
  exact lv_land C.1 C.2.1 h1 (h o ho H locs ls hP hD hS hl)
theorem j_lor (C : jx X cc nL own ret tc rm) {x y : Int64} (hd : jd cc pc .lor 1 pc') (h : jo X nL kn Q O ws pc' lv (.long (x ||| y) :: st)) : jo X nL kn Q O ws pc lv (.long y :: .long x :: st) := by
  intro o ho H locs ls hP hD hS hl
  obtain ⟨h1, rfl⟩ := hd
  exact lv_lor C.1 C.2.1 h1 (h o ho H locs ls hP hD hS hl)
theorem j_lshl (C : jx X cc nL own ret tc rm) {x : Int64} {y : Int32} (hd : jd cc pc .lshl 1 pc') (h : jo X nL kn Q O ws pc' lv (.long (x <<< (y.toInt64 &&& 63)) :: st)) : jo X nL kn Q O ws pc lv (.int y :: .long x :: st) := by
  intro o ho H locs ls hP hD hS hl
  obtain ⟨h1, rfl⟩ := hd
  exact lv_lshl C.1 C.2.1 h1 rfl (h o ho H locs ls hP hD hS hl)
theorem j_lshr (C : jx X cc nL own ret tc rm) {x : Int64} {y : Int32} (hd : jd cc pc .lshr 1 pc') (h : jo X nL kn Q O ws pc' lv (.long (x >>> (y.toInt64 &&& 63)) :: st)) : jo X nL kn Q O ws pc lv (.int y :: .long x :: st) := by
  intro o ho H locs ls hP hD hS hl
  obtain ⟨h1, rfl⟩ := hd
  exact lv_lshr C.1 C.2.1 h1 rfl (h o ho H locs ls hP hD hS hl)
theorem j_i2l (C : jx X cc nL own ret tc rm) {x : Int32} (hd : jd cc pc .i2l 1 pc') (h : jo X nL kn Q O ws pc' lv (.long x.toInt64 :: st)) : jo X nL kn Q O ws pc lv (.int x :: st) := by
  intro o ho H locs ls hP hD hS hl
  obtain ⟨h1, rfl⟩ := hd
  exact lv_i2l C.1 C.2.1 h1 rfl (h o ho H locs ls hP hD hS hl)
theorem j_l2i (C : jx X cc nL own ret tc rm) {x : Int64} (hd : jd cc pc .l2i 1 pc') (h : jo X nL kn Q O ws pc' lv (.int x.toInt32 :: st)) : jo X nL kn Q O ws pc lv (.long x :: st) := by
  intro o ho H locs ls hP hD hS hl
  obtain ⟨h1, rfl⟩ := hd
  exact lv_l2i C.1 C.2.1 h1 rfl (h o ho H locs ls hP hD hS hl)
theorem j_lcmp (C : jx X cc nL own ret tc rm) {x y : Int64} (hd : jd cc pc .lcmp 1 pc') (h : jo X nL kn Q O ws pc' lv (.int (lg_cmp x y) :: st)) : jo X nL kn Q O ws pc lv (.long y :: .long x :: st) := by
  intro o ho H locs ls hP hD hS hl
  obtain ⟨h1, rfl⟩ := hd
  exact W.lcmp C.1 C.2.1 h1 (h o ho H locs ls hP hD hS hl)
theorem j_icmp_eq (C : jx X cc nL own ret tc rm) {x y : Int32} {off : Int} {A B : Option ρ} (hd : jdb cc pc (.if_icmp .eq off) off tgt pc') (hA : jo X nL kn Q A ws tgt lv st) (hB : jo X nL kn Q B ws pc' lv st) : jo X nL kn Q (if x = y then A else B) ws pc lv (.int y :: .int x :: st) := by
  intro o ho H locs ls hP hD hS hl
  obtain ⟨h1, h2, rfl⟩ := hd
  refine lv_icmp_eq C.1 C.2.1 h1 h2 (fun hc => hA o ?_ H locs ls hP hD hS hl) (fun hc => hB o ?_ H locs ls hP hD hS hl)
  · rw [if_pos hc] at ho; exact ho
  · rw [if_neg hc] at ho; exact ho
theorem j_if_eq (C : jx X cc nL own ret tc rm) {x : Int32} {off : Int} {A B : Option ρ} (hd : jdb cc pc (.ifCond .eq off) off tgt pc') (hA : jo X nL kn Q A ws tgt lv st) (hB : jo X nL kn Q B ws pc' lv st) : jo X nL kn Q (if x = 0 then A else B) ws pc lv (.int x :: st) := by
  intro o ho H locs ls hP hD hS hl
  obtain ⟨h1, h2, rfl⟩ := hd
  refine lv_if_eq C.1 C.2.1 h1 h2 (fun hc => hA o ?_ H locs ls hP hD hS hl) (fun hc => hB o ?_ H locs ls hP hD hS hl)
  · rw [if_pos hc] at ho; exact ho
  · rw [if_neg hc] at ho; exact ho
theorem j_icmp_ne (C : jx X cc nL own ret tc rm) {x y : Int32} {off : Int} {A B : Option ρ} (hd : jdb cc pc (.if_icmp .ne off) off tgt pc') (hA : jo X nL kn Q A ws tgt lv st) (hB : jo X nL kn Q B ws pc' lv st) : jo X nL kn Q (if x = y then B else A) ws pc lv (.int y :: .int x :: st) := by
  intro o ho H locs ls hP hD hS hl
  obtain ⟨h1, h2, rfl⟩ := hd
  refine lv_icmp_ne C.1 C.2.1 h1 h2 (fun hc => hA o ?_ H locs ls hP hD hS hl) (fun hc => hB o ?_ H locs ls hP hD hS hl)
  · rw [if_neg hc] at ho; exact ho
  · rw [if_pos hc] at ho; exact ho
theorem j_if_ne (C : jx X cc nL own ret tc rm) {x : Int32} {off : Int} {A B : Option ρ} (hd : jdb cc pc (.ifCond .ne off) off tgt pc') (hA : jo X nL kn Q A ws tgt lv st) (hB : jo X nL kn Q B ws pc' lv st) : jo X nL kn Q (if x = 0 then B else A) ws pc lv (.int x :: st) := by
  intro o ho H locs ls hP hD hS hl
  obtain ⟨h1, h2, rfl⟩ := hd
  refine lv_if_ne C.1 C.2.1 h1 h2 (fun hc => hA o ?_ H locs ls hP hD hS hl) (fun hc => hB o ?_ H locs ls hP hD hS hl)
  · rw [if_neg hc] at ho; exact ho
  · rw [if_pos hc] at ho; exact ho
theorem j_icmp_lt (C : jx X cc nL own ret tc rm) {x y : Int32} {off : Int} {A B : Option ρ} (hd : jdb cc pc (.if_icmp .lt off) off tgt pc') (hA : jo X nL kn Q A ws tgt lv st) (hB : jo X nL kn Q B ws pc' lv st) : jo X nL kn Q (if x < y then A else B) ws pc lv (.int y :: .int x :: st) := by
  intro o ho H locs ls hP hD hS hl
  obtain ⟨h1, h2, rfl⟩ := hd
  refine lv_icmp_lt C.1 C.2.1 h1 h2 (fun hc => hA o ?_ H locs ls hP hD hS hl) (fun hc => hB o ?_ H locs ls hP hD hS hl)
  · rw [if_pos hc] at ho; exact ho
  · rw [if_neg hc] at ho; exact ho
theorem j_if_lt (C : jx X cc nL own ret tc rm) {x : Int32} {off : Int} {A B : Option ρ} (hd : jdb cc pc (.ifCond .lt off) off tgt pc') (hA : jo X nL kn Q A ws tgt lv st) (hB : jo X nL kn Q B ws pc' lv st) : jo X nL kn Q (if x < 0 then A else B) ws pc lv (.int x :: st) := by
  intro o ho H locs ls hP hD hS hl
  obtain ⟨h1, h2, rfl⟩ := hd
  refine lv_if_lt C.1 C.2.1 h1 h2 (fun hc => hA o ?_ H locs ls hP hD hS hl) (fun hc => hB o ?_ H locs ls hP hD hS hl)
  · rw [if_pos hc] at ho; exact ho
  · rw [if_neg hc] at ho; exact ho
theorem j_icmp_ge (C : jx X cc nL own ret tc rm) {x y : Int32} {off : Int} {A B : Option ρ} (hd : jdb cc pc (.if_icmp .ge off) off tgt pc') (hA : jo X nL kn Q A ws tgt lv st) (hB : jo X nL kn Q B ws pc' lv st) : jo X nL kn Q (if y ≤ x then A else B) ws pc lv (.int y :: .int x :: st) := by
  intro o ho H locs ls hP hD hS hl
  obtain ⟨h1, h2, rfl⟩ := hd
  refine lv_icmp_ge C.1 C.2.1 h1 h2 (fun hc => hA o ?_ H locs ls hP hD hS hl) (fun hc => hB o ?_ H locs ls hP hD hS hl)
  · rw [if_pos hc] at ho; exact ho
  · rw [if_neg hc] at ho; exact ho
theorem j_if_ge (C : jx X cc nL own ret tc rm) {x : Int32} {off : Int} {A B : Option ρ} (hd : jdb cc pc (.ifCond .ge off) off tgt pc') (hA : jo X nL kn Q A ws tgt lv st) (hB : jo X nL kn Q B ws pc' lv st) : jo X nL kn Q (if 0 ≤ x then A else B) ws pc lv (.int x :: st) := by
  intro o ho H locs ls hP hD hS hl
  obtain ⟨h1, h2, rfl⟩ := hd
  refine lv_if_ge C.1 C.2.1 h1 h2 (fun hc => hA o ?_ H locs ls hP hD hS hl) (fun hc => hB o ?_ H locs ls hP hD hS hl)
  · rw [if_pos hc] at ho; exact ho
  · rw [if_neg hc] at ho; exact ho
theorem j_icmp_gt (C : jx X cc nL own ret tc rm) {x y : Int32} {off : Int} {A B : Option ρ} (hd : jdb cc pc (.if_icmp .gt off) off tgt pc') (hA : jo X nL kn Q A ws tgt lv st) (hB : jo X nL kn Q B ws pc' lv st) : jo X nL kn Q (if y < x then A else B) ws pc lv (.int y :: .int x :: st) := by
  intro o ho H locs ls hP hD hS hl
  obtain ⟨h1, h2, rfl⟩ := hd
  refine lv_icmp_gt C.1 C.2.1 h1 h2 (fun hc => hA o ?_ H locs ls hP hD hS hl) (fun hc => hB o ?_ H locs ls hP hD hS hl)
  · rw [if_pos hc] at ho; exact ho
  · rw [if_neg hc] at ho; exact ho
theorem j_if_gt (C : jx X cc nL own ret tc rm) {x : Int32} {off : Int} {A B : Option ρ} (hd : jdb cc pc (.ifCond .gt off) off tgt pc') (hA : jo X nL kn Q A ws tgt lv st) (hB : jo X nL kn Q B ws pc' lv st) : jo X nL kn Q (if 0 < x then A else B) ws pc lv (.int x :: st) := by
  intro o ho H locs ls hP hD hS hl
  obtain ⟨h1, h2, rfl⟩ := hd
  refine lv_if_gt C.1 C.2.1 h1 h2 (fun hc => hA o ?_ H locs ls hP hD hS hl) (fun hc => hB o ?_ H locs ls hP hD hS hl)
  · rw [if_pos hc] at ho; exact ho
  · rw [if_neg hc] at ho; exact ho
theorem j_icmp_le (C : jx X cc nL own ret tc rm) {x y : Int32} {off : Int} {A B : Option ρ} (hd : jdb cc pc (.if_icmp .le off) off tgt pc') (hA : jo X nL kn Q A ws tgt lv st) (hB : jo X nL kn Q B ws pc' lv st) : jo X nL kn Q (if x ≤ y then A else B) ws pc lv (.int y :: .int x :: st) := by
  intro o ho H locs ls hP hD hS hl
  obtain ⟨h1, h2, rfl⟩ := hd
  refine lv_icmp_le C.1 C.2.1 h1 h2 (fun hc => hA o ?_ H locs ls hP hD hS hl) (fun hc => hB o ?_ H locs ls hP hD hS hl)
  · rw [if_pos hc] at ho; exact ho
  · rw [if_neg hc] at ho; exact ho
theorem j_if_le (C : jx X cc nL own ret tc rm) {x : Int32} {off : Int} {A B : Option ρ} (hd : jdb cc pc (.ifCond .le off) off tgt pc') (hA : jo X nL kn Q A ws tgt lv st) (hB : jo X nL kn Q B ws pc' lv st) : jo X nL kn Q (if x ≤ 0 then A else B) ws pc lv (.int x :: st) := by
  intro o ho H locs ls hP hD hS hl
  obtain ⟨h1, h2, rfl⟩ := hd
  refine lv_if_le C.1 C.2.1 h1 h2 (fun hc => hA o ?_ H locs ls hP hD hS hl) (fun hc => hB o ?_ H locs ls hP hD hS hl)
  · rw [if_pos hc] at ho; exact ho
  · rw [if_neg hc] at ho; exact ho
-- fields
def jfl (own : String) (idx ci k : Nat) : Prop := ∃ (C : String) (T : u_T) (N : Nat), vwCl[ci]? = some (C, T, N) ∧ k < N ∧ (∀ w ∈ u_ws C T N, w ∈ jtb) ∧ Cond.fieldLink own idx (T k).1 (T k).2.1 (T k).2.2.1 ∈ jtb
def jfp (own : String) (idx ci k : Nat) (ty : FieldType) (fin : Bool) : Prop := ∃ (C : String) (T : u_T) (N : Nat) (ty0 : Nat → FieldType), vwCl[ci]? = some (C, T, N) ∧ k < N ∧ (∀ w ∈ u_ws C T N, w ∈ jtb) ∧ Cond.fieldLink own idx (T k).1 (T k).2.1 (T k).2.2.1 ∈ jtb ∧ (∀ k, k < N → parseFieldDescriptor (T k).2.2.1 = some (ty0 k)) ∧ (∀ a, a < N → ∀ b, b < N → a ≠ b → (T a).2.1 ≠ (T b).2.1) ∧ (T k).2.2.2 = fin ∧ parseFieldDescriptor (T k).2.2.1 = some ty ∧ (T k).1 = own
theorem j_get (C : jx X cc nL own ret tc rm) {idx ci k a : Nat} {fs : List Value} {v : Value} (hd : jd cc pc (.getfield idx) 3 pc') (hf : jfl own idx ci k) (q0 : Nat) (he : ws[q0]? = some (a, .inr (ci, fs))) (hv : fs[k]? = some v) (h : jo X nL kn Q O ws pc' lv (v :: st)) : jo X nL kn Q O ws pc lv (.ref a :: st) := by
  intro o ho H locs ls hP hD hS hl
  obtain ⟨h1, rfl⟩ := hd
  obtain ⟨Cn, T, N, e1, e2, e3, e4⟩ := hf
  exact va_get C.1 C.2.1 C.2.2.2.2.1 e3 C.2.2.2.1 C.2.2.2.2.2.1 hP q0 he e1 k e2 (C.2.2.2.2.1 _ e4) (fun _ h9 => h9) hv h1 (h o ho H locs ls hP hD hS hl)
theorem j_put (C : jx X cc nL own ret tc rm) {idx ci k a : Nat} {fs : List Value} {v : Value} {ty : FieldType} {ws' : va_W} (hd : jd cc pc (.putfield idx) 3 pc') (hf : jfp own idx ci k ty false) (q0 : Nat) (he : ws[q0]? = some (a, .inr (ci, fs))) (hn : narrow ty v = v) (hfit : fits ty v = true) (hlen : k < fs.length) (hw : ws.set q0 (a, .inr (ci, fs.set k v)) = ws') (h : jo X nL kn Q O ws' pc' lv st) : jo X nL kn Q O ws pc lv (v :: .ref a :: st) := by
  intro o ho H locs ls hP hD hS hl
  obtain ⟨h1, rfl⟩ := hd
  obtain ⟨Cn, T, N, ty0, e1, e2, e3, e4, e5, e6, e7, e8, e9⟩ := hf
  subst hw
  exact va_put C.1 C.2.1 C.2.2.2.2.1 e3 ty0 e5 e6 C.2.2.2.1 C.2.2.2.2.2.1 hP hD hS q0 he e1 k e2 (C.2.2.2.2.1 _ e4) (fun _ h9 => h9) e7 e8 hn hfit hlen h1 (fun H1 locs1 hP1 hD1 hS1 => h o ho H1 locs1 ls hP1 hD1 hS1 hl)
-- the same, of a field that another class of the nest names
def jfq (own : String) (idx ci k : Nat) (ty : FieldType) : Prop := ∃ (C : String) (T : u_T) (N : Nat) (ty0 : Nat → FieldType), vwCl[ci]? = some (C, T, N) ∧ k < N ∧ (∀ w ∈ u_ws C T N, w ∈ jtb) ∧ Cond.fieldLink own idx (T k).1 (T k).2.1 (T k).2.2.1 ∈ jtb ∧ (∀ k, k < N → parseFieldDescriptor (T k).2.2.1 = some (ty0 k)) ∧ (∀ a, a < N → ∀ b, b < N → a ≠ b → (T a).2.1 ≠ (T b).2.1) ∧ (T k).2.2.2 = false ∧ parseFieldDescriptor (T k).2.2.1 = some ty
theorem j_putq (C : jx X cc nL own ret tc rm) {idx ci k a : Nat} {fs : List Value} {v : Value} {ty : FieldType} {ws' : va_W} (hd : jd cc pc (.putfield idx) 3 pc') (hf : jfq own idx ci k ty) (q0 : Nat) (he : ws[q0]? = some (a, .inr (ci, fs))) (hn : narrow ty v = v) (hfit : fits ty v = true) (hlen : k < fs.length) (hw : ws.set q0 (a, .inr (ci, fs.set k v)) = ws') (h : jo X nL kn Q O ws' pc' lv st) : jo X nL kn Q O ws pc lv (v :: .ref a :: st) := by
  intro o ho H locs ls hP hD hS hl
  obtain ⟨h1, rfl⟩ := hd
  obtain ⟨Cn, T, N, ty0, e1, e2, e3, e4, e5, e6, e7, e8⟩ := hf
  subst hw
  exact va_put C.1 C.2.1 C.2.2.2.2.1 e3 ty0 e5 e6 C.2.2.2.1 C.2.2.2.2.2.1 hP hD hS q0 he e1 k e2 (C.2.2.2.2.1 _ e4) (fun _ h9 => h9) e7 e8 hn hfit hlen h1 (fun H1 locs1 hP1 hD1 hS1 => h o ho H1 locs1 ls hP1 hD1 hS1 hl)
-- arrays
theorem j_iald (C : jx X cc nL own ret tc rm) {a n : Nat} {f : Nat → Int32} {i : Int32} {K : Int32 → Option ρ} (hd : jd cc pc .iaload 1 pc') (q0 : Nat) (he : ws[q0]? = some (a, .inl (tc.1, n, .inl f))) (h : ∀ x, jo X nL kn Q (K x) ws pc' lv (.int x :: st)) : jo X nL kn Q ((ag f n i).bind K) ws pc lv (.int i :: .ref a :: st) := by
  intro o ho H locs ls hP hD hS hl
  obtain ⟨h1, rfl⟩ := hd
  unfold ag at ho
  by_cases hb : inb i n = true
  · rw [if_pos hb] at ho
    exact va_iald C.1 C.2.1 C.2.2.2.2.2.1 hP q0 0 he rfl (inb_vp hb) h1 (h _ o ho H locs ls hP hD hS hl)
  · rw [if_neg hb] at ho; cases ho
theorem j_lald (C : jx X cc nL own ret tc rm) {a n : Nat} {f : Nat → Int64} {i : Int32} {K : Int64 → Option ρ} (hd : jd cc pc .laload 1 pc') (q0 : Nat) (he : ws[q0]? = some (a, .inl (tc.2.1, n, .inr (.inl f)))) (h : ∀ x, jo X nL kn Q (K x) ws pc' lv (.long x :: st)) : jo X nL kn Q ((agL f n i).bind K) ws pc lv (.int i :: .ref a :: st) := by
  intro o ho H locs ls hP hD hS hl
  obtain ⟨h1, rfl⟩ := hd
  unfold agL at ho
  by_cases hb : inb i n = true
  · rw [if_pos hb] at ho
    exact va_lald C.1 C.2.1 C.2.2.2.2.2.1 hP q0 1 he rfl (inb_vp hb) h1 (h _ o ho H locs ls hP hD hS hl)
  · rw [if_neg hb] at ho; cases ho
theorem j_iast (C : jx X cc nL own ret tc rm) {a n : Nat} {f : Nat → Int32} {i x : Int32} {K : (Nat → Int32) → Option ρ} (wf : (Nat → Int32) → va_W) (hd : jd cc pc .iastore 1 pc') (q0 : Nat) (he : ws[q0]? = some (a, .inl (tc.1, n, .inl f))) (hw : ∀ g, ws.set q0 (a, .inl (tc.1, n, .inl g)) = wf g) (h : ∀ g, jo X nL kn Q (K g) (wf g) pc' lv st) : jo X nL kn Q ((as_ f n i x).bind K) ws pc lv (.int x :: .int i :: .ref a :: st) := by
  intro o ho H locs ls hP hD hS hl
  obtain ⟨h1, rfl⟩ := hd
  unfold as_ at ho
  by_cases hb : inb i n = true
  · rw [if_pos hb] at ho
    refine va_iast C.1 C.2.1 C.2.2.2.2.2.1 hP hD hS q0 0 he rfl (inb_vp hb) h1 (fun H1 locs1 hP1 hD1 hS1 => ?_)
    rw [hw] at hP1 hD1
    exact h _ o ho H1 locs1 ls hP1 hD1 hS1 hl
  · rw [if_neg hb] at ho; cases ho
theorem j_last (C : jx X cc nL own ret tc rm) {a n : Nat} {f : Nat → Int64} {i : Int32} {x : Int64} {K : (Nat → Int64) → Option ρ} (wf : (Nat → Int64) → va_W) (hd : jd cc pc .lastore 1 pc') (q0 : Nat) (he : ws[q0]? = some (a, .inl (tc.2.1, n, .inr (.inl f)))) (hw : ∀ g, ws.set q0 (a, .inl (tc.2.1, n, .inr (.inl g))) = wf g) (h : ∀ g, jo X nL kn Q (K g) (wf g) pc' lv st) : jo X nL kn Q ((asL f n i x).bind K) ws pc lv (.long x :: .int i :: .ref a :: st) := by
  intro o ho H locs ls hP hD hS hl
  obtain ⟨h1, rfl⟩ := hd
  unfold asL at ho
  by_cases hb : inb i n = true
  · rw [if_pos hb] at ho
    refine va_last C.1 C.2.1 C.2.2.2.2.2.1 hP hD hS q0 1 he rfl (inb_vp hb) h1 (fun H1 locs1 hP1 hD1 hS1 => ?_)
    rw [hw] at hP1 hD1
    exact h _ o ho H1 locs1 ls hP1 hD1 hS1 hl
  · rw [if_neg hb] at ho; cases ho
-- Math and System
theorem j_mmin (C : jx X cc nL own ret tc rm) {idx : Nat} {x y : Int32} (hd : jd cc pc (.invokestatic idx) 3 pc') (hl0 : Cond.methodLink own idx Lib.Math.min.name ∈ jtb) (hkn : kn = (0, 0)) (hr : 1 ≤ rm.frames ∧ 21 ≤ rm.locals) (hst : (st.map fun v => v.category).sum ≤ 8) (h : jo X nL kn Q O ws pc' lv (.int (if y < x then y else x) :: st)) : jo X nL kn Q O ws pc lv (.int y :: .int x :: st) := by
  intro o ho H locs ls hP hD hS hl
  obtain ⟨h1, rfl⟩ := hd
  have hR : j_R X = rm := C.2.2.2.2.2.2.2.2.2.1
  subst hkn
  exact va_mmin C.1 C.2.1 (by rw [C.2.2.1]; exact hl.1.symm) C.2.2.2.1 (C.2.2.2.2.1 _ hl0) (C.2.2.2.2.1 _ lw_minS) (C.2.2.2.2.1 _ lw_mathI) (C.2.2.2.2.1 _ lw_minC) (by rw [hR]; exact hr.1) (by rw [hR]; omega) (Nat.zero_le _) (Nat.zero_le _) h1 (h o ho H locs ls hP hD hS hl)
theorem j_mmax (C : jx X cc nL own ret tc rm) {idx : Nat} {x y : Int32} (hd : jd cc pc (.invokestatic idx) 3 pc') (hl0 : Cond.methodLink own idx Lib.Math.max.name ∈ jtb) (hkn : kn = (0, 0)) (hr : 1 ≤ rm.frames ∧ 21 ≤ rm.locals) (hst : (st.map fun v => v.category).sum ≤ 8) (h : jo X nL kn Q O ws pc' lv (.int (if x < y then y else x) :: st)) : jo X nL kn Q O ws pc lv (.int y :: .int x :: st) := by
  intro o ho H locs ls hP hD hS hl
  obtain ⟨h1, rfl⟩ := hd
  have hR : j_R X = rm := C.2.2.2.2.2.2.2.2.2.1
  subst hkn
  exact va_mmax C.1 C.2.1 (by rw [C.2.2.1]; exact hl.1.symm) C.2.2.2.1 (C.2.2.2.2.1 _ hl0) (C.2.2.2.2.1 _ lw_maxS) (C.2.2.2.2.1 _ lw_mathI) (C.2.2.2.2.1 _ lw_maxC) (by rw [hR]; exact hr.1) (by rw [hR]; omega) (Nat.zero_le _) (Nat.zero_le _) h1 (h o ho H locs ls hP hD hS hl)
def acp (f g : Nat → Int32) (n0 n1 : Nat) (sp dp n : Int32) : Option (Nat → Int32) := if 0 ≤ sp.toInt ∧ 0 ≤ dp.toInt ∧ 0 ≤ n.toInt ∧ sp.toInt + n.toInt ≤ (n0 : Int) ∧ dp.toInt + n.toInt ≤ (n1 : Int) then some (va_cpy f g sp.toNatClampNeg dp.toNatClampNeg n.toNatClampNeg) else none
theorem j_nn {z : Int32} (h : 0 ≤ z.toInt) : ¬ z < 0 ∧ z.toInt = (z.toNatClampNeg : Int) := by
  refine ⟨fun q => ?_, ?_⟩
  · have := Int32.lt_iff_toInt_lt.mp q
    simp at this
    omega
  · show z.toInt = ((z.toInt.toNat : Nat) : Int)
    omega
theorem j_copyi (C : jx X cc nL own ret tc rm) {idx a0 a n0 n1 : Nat} {f g : Nat → Int32} {sp dp n : Int32} {K : (Nat → Int32) → Option ρ} (wf : (Nat → Int32) → va_W) (hd : jd cc pc (.invokestatic idx) 3 pc') (hl0 : Cond.methodLink own idx arraycopyName ∈ jtb) (hr : 1 ≤ rm.frames ∧ 40 ≤ rm.locals) (hst : (st.map fun v => v.category).sum ≤ 8) (q0 q1 : Nat) (he0 : ws[q0]? = some (a0, .inl (tc.1, n0, .inl f))) (he1 : ws[q1]? = some (a, .inl (tc.1, n1, .inl g))) (hw : ∀ g, ws.set q1 (a, .inl (tc.1, n1, .inl g)) = wf g) (h : ∀ g, jo X nL kn Q (K g) (wf g) pc' lv st) : jo X nL kn Q ((acp f g n0 n1 sp dp n).bind K) ws pc lv (.int n :: .int dp :: .ref a :: .int sp :: .ref a0 :: st) := by
  intro o ho H locs ls hP hD hS hl
  obtain ⟨h1, rfl⟩ := hd
  have hR : j_R X = rm := C.2.2.2.2.2.2.2.2.2.1
  unfold acp at ho
  by_cases hb : 0 ≤ sp.toInt ∧ 0 ≤ dp.toInt ∧ 0 ≤ n.toInt ∧ sp.toInt + n.toInt ≤ (n0 : Int) ∧ dp.toInt + n.toInt ≤ (n1 : Int)
  · rw [if_pos hb] at ho
    obtain ⟨b1, b2, b3, b4, b5⟩ := hb
    have c1 := j_nn b1; have c2 := j_nn b2; have c3 := j_nn b3
    have hnw : nativeFrameWords "java/lang/System" "arraycopy" 5 + 11 ≤ 32 := by decide +kernel
    refine va_copyi C.1 C.2.1 (by rw [C.2.2.1]; exact hl.1.symm) C.2.2.2.1 (C.2.2.2.2.1 _ hl0) (C.2.2.2.2.1 _ lw_acN) (C.2.2.2.2.1 _ lw_acS) (C.2.2.2.2.1 _ lw_sysI) C.2.2.2.2.2.1 hP hD hS q0 q1 0 0 he0 he1 (ty := .int) rfl rfl rfl c1.1 c2.1 c3.1 (by omega) (by omega) (fun i _ => rfl) (by rw [hR]; exact hr.1) (by rw [hR]; omega) h1 (fun H1 locs1 hP1 hD1 hS1 => ?_)
    rw [hw] at hP1 hD1
    exact h _ o ho H1 locs1 ls hP1 hD1 hS1 hl
  · rw [if_neg hb] at ho; cases ho
-- the ends
def jQI {S : Type} (X : jC) (wn : S → va_W) : Int32 × S → State → Prop := fun o => MQ (j_b X) (va_Qi (fun r u => (r, u) = o) (fun u t => va_P (j_D X) vwCl (wn u) t.heap) (j_A X)) (j_a X) (j_s X) 0 0 (j_A X)
def jQL {S : Type} (X : jC) (wn : S → va_W) : Int64 × S → State → Prop := fun o => MQ (j_b X) (va_Ql (fun r u => (r, u) = o) (fun u t => va_P (j_D X) vwCl (wn u) t.heap) (j_A X)) (j_a X) (j_s X) 0 0 (j_A X)
def jQV {S : Type} (X : jC) (wn : S → va_W) : S → State → Prop := fun o => MQ (j_b X) (va_Qv (fun u => u = o) (fun u t => va_P (j_D X) vwCl (wn u) t.heap) (j_A X)) (j_a X) (j_s X) 0 0 (j_A X)
theorem j_iret {S : Type} {wn : S → va_W} (C : jx X cc nL own (some .int) tc rm) {r : Int32} {u : S} (hd : decode cc pc = .ok (.ireturn, 1)) (hw : ws = wn u) : jo X nL (0, 0) (jQI X wn) (some (r, u)) ws pc lv [.int r] := by
  intro o ho H locs ls hP hD hS hl
  cases ho
  subst hw
  exact W.iret C.1 C.2.1 C.2.2.2.2.2.2.1 (fun t ht hW => ⟨⟨r, u, rfl, rfl, by show va_P _ _ _ t.heap; rw [ht]; exact hP⟩, hS.F ht⟩) hS.2.2 hd C.2.2.2.2.2.2.2.1
theorem j_zret {S : Type} {wn : S → va_W} (C : jx X cc nL own (some .boolean) tc rm) {r : Int32} {u : S} (hv : r = 0 ∨ r = 1) (hd : decode cc pc = .ok (.ireturn, 1)) (hw : ws = wn u) : jo X nL (0, 0) (jQI X wn) (some (r, u)) ws pc lv [.int r] := by
  intro o ho H locs ls hP hD hS hl
  cases ho
  subst hw
  exact W.zret C.1 C.2.1 C.2.2.2.2.2.2.1 (by rcases hv with rfl | rfl <;> rfl) (fun t ht hW => ⟨⟨r, u, rfl, rfl, by show va_P _ _ _ t.heap; rw [ht]; exact hP⟩, hS.F ht⟩) hS.2.2 hd C.2.2.2.2.2.2.2.1
theorem j_lret {S : Type} {wn : S → va_W} (C : jx X cc nL own (some .long) tc rm) {r : Int64} {u : S} (hd : decode cc pc = .ok (.lreturn, 1)) (hw : ws = wn u) : jo X nL (0, 0) (jQL X wn) (some (r, u)) ws pc lv [.long r] := by
  intro o ho H locs ls hP hD hS hl
  cases ho
  subst hw
  exact W.lret C.1 C.2.1 C.2.2.2.2.2.2.1 (fun t ht hW => ⟨⟨r, u, rfl, rfl, by show va_P _ _ _ t.heap; rw [ht]; exact hP⟩, hS.F ht⟩) hS.2.2 hd C.2.2.2.2.2.2.2.1
theorem j_vret {S : Type} {wn : S → va_W} (C : jx X cc nL own none tc rm) {u : S} (hd : decode cc pc = .ok (.return_, 1)) (hw : ws = wn u) : jo X nL (0, 0) (jQV X wn) (some u) ws pc lv [] := by
  intro o ho H locs ls hP hD hS hl
  cases ho
  subst hw
  exact W.vret C.1 C.2.1 C.2.2.2.2.2.2.1 (fun t ht hW => ⟨⟨u, rfl, rfl, by show va_P _ _ _ t.heap; rw [ht]; exact hP⟩, hS.F ht⟩) hS.2.2 hd C.2.2.2.2.2.2.2.1
def jQI0 (X : jC) (wc : va_W) : Int32 → State → Prop := fun o => MQ (j_b X) (va_Qi (fun r (_ : Unit) => r = o) (fun _ t => va_P (j_D X) vwCl wc t.heap) (j_A X)) (j_a X) (j_s X) 0 0 (j_A X)
def jQL0 (X : jC) (wc : va_W) : Int64 → State → Prop := fun o => MQ (j_b X) (va_Ql (fun r (_ : Unit) => r = o) (fun _ t => va_P (j_D X) vwCl wc t.heap) (j_A X)) (j_a X) (j_s X) 0 0 (j_A X)
theorem j_iret0 (C : jx X cc nL own (some .int) tc rm) {r : Int32} (hd : decode cc pc = .ok (.ireturn, 1)) : jo X nL (0, 0) (jQI0 X ws) (some r) ws pc lv [.int r] := by
  intro o ho H locs ls hP hD hS hl
  cases ho
  exact W.iret C.1 C.2.1 C.2.2.2.2.2.2.1 (fun t ht hW => ⟨⟨r, (), rfl, rfl, by show va_P _ _ _ t.heap; rw [ht]; exact hP⟩, hS.F ht⟩) hS.2.2 hd C.2.2.2.2.2.2.2.1
theorem j_zret0 (C : jx X cc nL own (some .boolean) tc rm) {r : Int32} (hv : r = 0 ∨ r = 1) (hd : decode cc pc = .ok (.ireturn, 1)) : jo X nL (0, 0) (jQI0 X ws) (some r) ws pc lv [.int r] := by
  intro o ho H locs ls hP hD hS hl
  cases ho
  exact W.zret C.1 C.2.1 C.2.2.2.2.2.2.1 (by rcases hv with rfl | rfl <;> rfl) (fun t ht hW => ⟨⟨r, (), rfl, rfl, by show va_P _ _ _ t.heap; rw [ht]; exact hP⟩, hS.F ht⟩) hS.2.2 hd C.2.2.2.2.2.2.2.1
theorem j_lret0 (C : jx X cc nL own (some .long) tc rm) {r : Int64} (hd : decode cc pc = .ok (.lreturn, 1)) : jo X nL (0, 0) (jQL0 X ws) (some r) ws pc lv [.long r] := by
  intro o ho H locs ls hP hD hS hl
  cases ho
  exact W.lret C.1 C.2.1 C.2.2.2.2.2.2.1 (fun t ht hW => ⟨⟨r, (), rfl, rfl, by show va_P _ _ _ t.heap; rw [ht]; exact hP⟩, hS.F ht⟩) hS.2.2 hd C.2.2.2.2.2.2.2.1
end JK
-- contracts
def jPc (D : va_G) (tc : jTC) (av : List Value) (wc : va_W) (sz : Nat) : Array Value → State → Prop := va_Pc av (fun U => U.heap.size = sz ∧ va_P D vwCl wc U.heap ∧ va_K D vwCl (jT tc) U ∧ va_D (fun _ => True) wc ∧ jNw U)
def ctI {S : Type} (l : Launch) (D : va_G) (tc : jTC) (y : MethodName) (cw : List Cond) (rm : Room) (av : List Value) (wc : va_W) (O : Option (Int32 × S)) (wn : S → va_W) : Prop := ∀ (sz : Nat) (o : Int32 × S), O = some o → Met l y cw rm (jPc D tc av wc sz) (va_Qi (fun r u => (r, u) = o) (fun u t => va_P D vwCl (wn u) t.heap) (va_A wc sz)) 0 0 (va_A wc sz)
def ctL {S : Type} (l : Launch) (D : va_G) (tc : jTC) (y : MethodName) (cw : List Cond) (rm : Room) (av : List Value) (wc : va_W) (O : Option (Int64 × S)) (wn : S → va_W) : Prop := ∀ (sz : Nat) (o : Int64 × S), O = some o → Met l y cw rm (jPc D tc av wc sz) (va_Ql (fun r u => (r, u) = o) (fun u t => va_P D vwCl (wn u) t.heap) (va_A wc sz)) 0 0 (va_A wc sz)
def ctV {S : Type} (l : Launch) (D : va_G) (tc : jTC) (y : MethodName) (cw : List Cond) (rm : Room) (av : List Value) (wc : va_W) (O : Option S) (wn : S → va_W) : Prop := ∀ (sz : Nat) (o : S), O = some o → Met l y cw rm (jPc D tc av wc sz) (va_Qv (fun u => u = o) (fun u t => va_P D vwCl (wn u) t.heap) (va_A wc sz)) 0 0 (va_A wc sz)
theorem j_blind {D : va_G} {tc : jTC} {av : List Value} {wc : va_W} {sz : Nat} : FrameBlind (jPc D tc av wc sz) := by
  intro a U g mk q
  obtain ⟨q0, q1, qP, qK, qD, qN⟩ := q
  exact ⟨q0, q1, qP, va_K.moved (u := U) (U := U.calling g mk a) (Vm.Alike.refl U.vm) qK, qD, qN⟩
theorem ctI_of {S : Type} {l : Launch} {D : va_G} {tc : jTC} {y : MethodName} {cc : ByteArray} {maxL : Nat} {ret : Option FieldType} {rm : Room} {vs : List Value} {wc : va_W} {O : Option (Int32 × S)} {wn : S → va_W} {lv0 : List (Nat × Value)} (hy : plainName y.cls = true) (hn : (lg_sl vs).length ≤ maxL) (hlv : lv_args 0 vs = lv0)
    (body : ∀ X : jC, jx X cc maxL y.cls ret tc rm → jo X maxL (0, 0) (jQI X wn) O wc 0 lv0 []) : ctI l D tc y (Cond.code y cc maxL ret :: jtb) rm vs wc O wn := by
  intro sz o ho
  refine Met.ofW (cc := cc) (maxL := maxL) (ret := ret) hy rfl ?_
  intro p e s m args below meth c s₁ B hml hv
  obtain ⟨rfl, hsz, hP, hK, hD0, hN⟩ := hv
  subst hsz
  have hts := atoms_spec (ws := Cond.code y cc maxL ret :: jtb) B.pre
  have hl := lv_entry vs (n := maxL) hn
  rw [lg_entry_eq]
  rw [hlv] at hl
  exact body (p, l, e, rm, s, m, vs.toArray, below, meth, c, D, va_A wc s.heap.size) ⟨B.exec, B.bytes, hml, findClass_of_methodNamed B.named, fun w h => hts w (List.mem_cons_of_mem _ h), hK, B.returns, B.notSynchronized, fun q h => Or.inr h, rfl, hN⟩ o ho s.heap [] _ hP hD0.self va_S.rf hl
theorem ctL_of {S : Type} {l : Launch} {D : va_G} {tc : jTC} {y : MethodName} {cc : ByteArray} {maxL : Nat} {ret : Option FieldType} {rm : Room} {vs : List Value} {wc : va_W} {O : Option (Int64 × S)} {wn : S → va_W} {lv0 : List (Nat × Value)} (hy : plainName y.cls = true) (hn : (lg_sl vs).length ≤ maxL) (hlv : lv_args 0 vs = lv0)
    (body : ∀ X : jC, jx X cc maxL y.cls ret tc rm → jo X maxL (0, 0) (jQL X wn) O wc 0 lv0 []) : ctL l D tc y (Cond.code y cc maxL ret :: jtb) rm vs wc O wn := by
  intro sz o ho
  refine Met.ofW (cc := cc) (maxL := maxL) (ret := ret) hy rfl ?_
  intro p e s m args below meth c s₁ B hml hv
  obtain ⟨rfl, hsz, hP, hK, hD0, hN⟩ := hv
  subst hsz
  have hts := atoms_spec (ws := Cond.code y cc maxL ret :: jtb) B.pre
  have hl := lv_entry vs (n := maxL) hn
  rw [lg_entry_eq]
  rw [hlv] at hl
  exact body (p, l, e, rm, s, m, vs.toArray, below, meth, c, D, va_A wc s.heap.size) ⟨B.exec, B.bytes, hml, findClass_of_methodNamed B.named, fun w h => hts w (List.mem_cons_of_mem _ h), hK, B.returns, B.notSynchronized, fun q h => Or.inr h, rfl, hN⟩ o ho s.heap [] _ hP hD0.self va_S.rf hl
theorem ctV_of {S : Type} {l : Launch} {D : va_G} {tc : jTC} {y : MethodName} {cc : ByteArray} {maxL : Nat} {ret : Option FieldType} {rm : Room} {vs : List Value} {wc : va_W} {O : Option S} {wn : S → va_W} {lv0 : List (Nat × Value)} (hy : plainName y.cls = true) (hn : (lg_sl vs).length ≤ maxL) (hlv : lv_args 0 vs = lv0)
    (body : ∀ X : jC, jx X cc maxL y.cls ret tc rm → jo X maxL (0, 0) (jQV X wn) O wc 0 lv0 []) : ctV l D tc y (Cond.code y cc maxL ret :: jtb) rm vs wc O wn := by
  intro sz o ho
  refine Met.ofW (cc := cc) (maxL := maxL) (ret := ret) hy rfl ?_
  intro p e s m args below meth c s₁ B hml hv
  obtain ⟨rfl, hsz, hP, hK, hD0, hN⟩ := hv
  subst hsz
  have hts := atoms_spec (ws := Cond.code y cc maxL ret :: jtb) B.pre
  have hl := lv_entry vs (n := maxL) hn
  rw [lg_entry_eq]
  rw [hlv] at hl
  exact body (p, l, e, rm, s, m, vs.toArray, below, meth, c, D, va_A wc s.heap.size) ⟨B.exec, B.bytes, hml, findClass_of_methodNamed B.named, fun w h => hts w (List.mem_cons_of_mem _ h), hK, B.returns, B.notSynchronized, fun q h => Or.inr h, rfl, hN⟩ o ho s.heap [] _ hP hD0.self va_S.rf hl
def ctI0 (l : Launch) (D : va_G) (tc : jTC) (y : MethodName) (cw : List Cond) (rm : Room) (av : List Value) (wc : va_W) (O : Option Int32) : Prop := ∀ (sz : Nat) (o : Int32), O = some o → Met l y cw rm (jPc D tc av wc sz) (va_Qi (fun r (_ : Unit) => r = o) (fun _ t => va_P D vwCl wc t.heap) (va_A wc sz)) 0 0 (va_A wc sz)
theorem ctI0_of {l : Launch} {D : va_G} {tc : jTC} {y : MethodName} {cc : ByteArray} {maxL : Nat} {ret : Option FieldType} {rm : Room} {vs : List Value} {wc : va_W} {O : Option Int32} {lv0 : List (Nat × Value)} (hy : plainName y.cls = true) (hn : (lg_sl vs).length ≤ maxL) (hlv : lv_args 0 vs = lv0)
    (body : ∀ X : jC, jx X cc maxL y.cls ret tc rm → jo X maxL (0, 0) (jQI0 X wc) O wc 0 lv0 []) : ctI0 l D tc y (Cond.code y cc maxL ret :: jtb) rm vs wc O := by
  intro sz o ho
  refine Met.ofW (cc := cc) (maxL := maxL) (ret := ret) hy rfl ?_
  intro p e s m args below meth c s₁ B hml hv
  obtain ⟨rfl, hsz, hP, hK, hD0, hN⟩ := hv
  subst hsz
  have hts := atoms_spec (ws := Cond.code y cc maxL ret :: jtb) B.pre
  have hl := lv_entry vs (n := maxL) hn
  rw [lg_entry_eq]
  rw [hlv] at hl
  exact body (p, l, e, rm, s, m, vs.toArray, below, meth, c, D, va_A wc s.heap.size) ⟨B.exec, B.bytes, hml, findClass_of_methodNamed B.named, fun w h => hts w (List.mem_cons_of_mem _ h), hK, B.returns, B.notSynchronized, fun q h => Or.inr h, rfl, hN⟩ o ho s.heap [] _ hP hD0.self va_S.rf hl
def ctL0 (l : Launch) (D : va_G) (tc : jTC) (y : MethodName) (cw : List Cond) (rm : Room) (av : List Value) (wc : va_W) (O : Option Int64) : Prop := ∀ (sz : Nat) (o : Int64), O = some o → Met l y cw rm (jPc D tc av wc sz) (va_Ql (fun r (_ : Unit) => r = o) (fun _ t => va_P D vwCl wc t.heap) (va_A wc sz)) 0 0 (va_A wc sz)
theorem ctL0_of {l : Launch} {D : va_G} {tc : jTC} {y : MethodName} {cc : ByteArray} {maxL : Nat} {ret : Option FieldType} {rm : Room} {vs : List Value} {wc : va_W} {O : Option Int64} {lv0 : List (Nat × Value)} (hy : plainName y.cls = true) (hn : (lg_sl vs).length ≤ maxL) (hlv : lv_args 0 vs = lv0)
    (body : ∀ X : jC, jx X cc maxL y.cls ret tc rm → jo X maxL (0, 0) (jQL0 X wc) O wc 0 lv0 []) : ctL0 l D tc y (Cond.code y cc maxL ret :: jtb) rm vs wc O := by
  intro sz o ho
  refine Met.ofW (cc := cc) (maxL := maxL) (ret := ret) hy rfl ?_
  intro p e s m args below meth c s₁ B hml hv
  obtain ⟨rfl, hsz, hP, hK, hD0, hN⟩ := hv
  subst hsz
  have hts := atoms_spec (ws := Cond.code y cc maxL ret :: jtb) B.pre
  have hl := lv_entry vs (n := maxL) hn
  rw [lg_entry_eq]
  rw [hlv] at hl
  exact body (p, l, e, rm, s, m, vs.toArray, below, meth, c, D, va_A wc s.heap.size) ⟨B.exec, B.bytes, hml, findClass_of_methodNamed B.named, fun w h => hts w (List.mem_cons_of_mem _ h), hK, B.returns, B.notSynchronized, fun q h => Or.inr h, rfl, hN⟩ o ho s.heap [] _ hP hD0.self va_S.rf hl
-- behind a call
def jputA : List Nat → va_W → va_W → va_W
  | [], _, ws => ws
  | i :: is, wn, ws => match wn with
    | [] => ws
    | w :: wn => jputA is wn (ws.set i w)
abbrev jput (ws : va_W) (ps : List Nat) (wn : va_W) : va_W := jputA ps wn ws
theorem jput_get : ∀ (ps : List Nat) (wn ws : va_W), ps.length = wn.length → ∀ (k : Nat) (q : Nat × va_E), (jput ws ps wn)[k]? = some q → (∃ j : Nat, wn[j]? = some q) ∨ (k ∉ ps ∧ ws[k]? = some q) := by
  intro ps
  induction ps with
  | nil => intro wn ws _ k q h; exact Or.inr ⟨List.not_mem_nil, h⟩
  | cons i is ih =>
    intro wn ws hl k q h
    cases wn with
    | nil => simp at hl
    | cons w wn =>
      rcases ih wn (ws.set i w) (by simpa using hl) k q h with ⟨j, hj⟩ | ⟨h1, h2⟩
      · exact Or.inl ⟨j + 1, by simpa using hj⟩
      · by_cases hk : k = i
        · subst hk
          rw [List.getElem?_set_self'] at h2
          cases hw : ws[k]? with
          | none => rw [hw] at h2; cases h2
          | some z => rw [hw] at h2; exact Or.inl ⟨0, by simpa using h2⟩
        · rw [List.getElem?_set_ne (fun e => hk e.symm)] at h2
          refine Or.inr ⟨fun hm => ?_, h2⟩
          rcases List.mem_cons.mp hm with e | e
          · exact hk e
          · exact h1 e
theorem jput_same : ∀ (ps : List Nat) (wn ws : va_W), ps.map (fun i => ws[i]?) = wn.map some → jput ws ps wn = ws := by
  intro ps
  induction ps with
  | nil => intro wn ws _; rfl
  | cons i is ih =>
    intro wn ws h
    cases wn with
    | nil => rfl
    | cons w wn =>
      simp only [List.map_cons, List.cons.injEq] at h
      have e : ws.set i w = ws := by
        obtain ⟨hl, he⟩ := List.getElem?_eq_some_iff.mp h.1
        rw [← he]; exact List.set_getElem_self hl
      show jput (ws.set i w) is wn = ws
      rw [e]
      exact ih wn ws h.2
theorem j_places {ps : List Nat} {ws wc : va_W} (hC : ps.map (fun i => ws[i]?) = wc.map some) (k : Nat) (q : Nat × va_E) (h : wc[k]? = some q) : ∃ i, ps[k]? = some i ∧ ws[i]? = some q := by
  have h1 : (ps.map (fun i => ws[i]?))[k]? = some (some q) := by rw [hC, List.getElem?_map, h]; rfl
  rw [List.getElem?_map] at h1
  cases hi : ps[k]? with
  | none => rw [hi] at h1; cases h1
  | some i => rw [hi] at h1; exact ⟨i, rfl, Option.some.inj h1⟩
theorem j_after {D : va_G} {A : Nat → Prop} {ws wc wn ws' : va_W} {H H1 : Heap} {ps : List Nat} (hP : va_P D vwCl ws H) (hD : va_D A ws) (hC : ps.map (fun i => ws[i]?) = wc.map some) (hk : ∀ q : Nat, q < H.size → ¬ va_A wc H.size q → H1[q]? = H[q]?) (hP1 : va_P D vwCl wn H1) (hlen : ps.length = wn.length) (hws : jput ws ps wn = ws') (hfst : ws'.map (·.1) = ws.map (·.1)) : va_P D vwCl ws' H1 ∧ va_D A ws' := by
  subst hws
  have back : ∀ (k : Nat) (q : Nat × va_E), (jput ws ps wn)[k]? = some q → ∃ q0, ws[k]? = some q0 ∧ q0.1 = q.1 := by
    intro k q h
    have h1 : ((jput ws ps wn).map (·.1))[k]? = some q.1 := by rw [List.getElem?_map, h]; rfl
    rw [hfst, List.getElem?_map] at h1
    cases hw : ws[k]? with
    | none => rw [hw] at h1; cases h1
    | some z => rw [hw] at h1; exact ⟨z, rfl, Option.some.inj h1⟩
  refine ⟨fun k q h => ?_, ⟨fun i j p q hi hj e => ?_, fun k q h => ?_⟩⟩
  · rcases jput_get ps wn ws hlen k q h with ⟨j, hj⟩ | ⟨h1, h2⟩
    · exact hP1 j q hj
    · have hl := (hP k q h2).lt
      refine (hP k q h2).kept (hk q.1 hl ?_)
      rintro (⟨k2, e, h3⟩ | h3)
      · obtain ⟨i, h4, h5⟩ := j_places hC k2 (q.1, e) h3
        have := hD.1 k i q (q.1, e) h2 h5 rfl
        subst this
        exact h1 (List.mem_of_getElem? h4)
      · omega
  · obtain ⟨p0, a1, a2⟩ := back i p hi
    obtain ⟨q0, b1, b2⟩ := back j q hj
    exact hD.1 i j p0 q0 a1 b1 (by rw [a2, b2]; exact e)
  · obtain ⟨q0, a1, a2⟩ := back k q h
    rw [← a2]; exact hD.2 k q0 a1
-- what the tables say of a call
def jml (own : String) (idx : Nat) (y : MethodName) (bytes : ByteArray) (maxL : Nat) (ret : Option FieldType) (n : Nat) : Prop := Cond.methodLink own idx y ∈ jtb ∧ Cond.code y bytes maxL ret ∈ jtb ∧ Cond.initialized y.cls ∈ jtb ∧ (y.cls ≠ "java/lang/invoke/MethodHandle" ∧ y.cls ≠ "java/lang/invoke/VarHandle" ∧ (parseMethodDescriptor y.desc).map (fun d => d.parameters.length) = some n)
def jmv (own : String) (idx : Nat) (y : MethodName) (bytes : ByteArray) (maxL : Nat) (ret : Option FieldType) (n ci : Nat) : Prop := jml own idx y bytes maxL ret n ∧ Cond.instanceMethod y ∈ jtb ∧ Cond.selects y.cls y y ∈ jtb ∧ ∃ (T : u_T) (N : Nat), vwCl[ci]? = some (y.cls, T, N)
def jms (own : String) (idx : Nat) (y : MethodName) (bytes : ByteArray) (maxL : Nat) (ret : Option FieldType) (n : Nat) : Prop := jml own idx y bytes maxL ret n ∧ Cond.static y ∈ jtb
theorem j_good {y : MethodName} {bytes : ByteArray} {maxL : Nat} {ret : Option FieldType} (h : Cond.code y bytes maxL ret ∈ jtb) : GoodIn jtb (Cond.code y bytes maxL ret :: jtb) := by
  intro w hw
  have hm : w ∈ jtb := by
    rcases List.mem_cons.mp hw with e | e
    · rw [e]; exact h
    · exact e
  exact ⟨hm, good_of_word (List.mem_filter.mp hm).2⟩
theorem j_pre {D : va_G} {tc : jTC} {av : List Value} {ws wc : va_W} {s U : State} {H : Heap} {A : Nat → Prop} {ps : List Nat} (hK : va_K D vwCl (jT tc) s) (hN : jNw s) (hP : va_P D vwCl ws H) (hD : va_D A ws) (hC : ps.map (fun i => ws[i]?) = wc.map some) (hnd : va_nd ps = true) (hU : U.heap = H) (hW : s.WarmedH U.vm) : jPc D tc av wc H.size av.toArray U := by
  refine ⟨rfl, by rw [hU], ?_, va_K.moved hW.alike hK, (hD.sub ps hnd hC).weaken (fun _ _ _ _ => trivial), fun q hq => (hN q hq).warmM hW⟩
  rw [hU]
  intro k q hk
  obtain ⟨i, -, hi⟩ := j_places hC k q hk
  exact hP i q hi
section JCALL
variable {ρ : Type} {X : jC} {cc bytes : ByteArray} {nL maxL n idx ci qr b : Nat} {own : String} {ret retc : Option FieldType} {tc : jTC} {rm rmc : Room} {Q : ρ → State → Prop} {ws wc : va_W} {pc pc' : Nat} {lv : List (Nat × Value)} {st st0 As : List Value} {y : MethodName} {fs : List Value} {Qc : Array Value → State → Outcome → State → Prop} {H : Heap} {locs : List Loc} {ls : Array Slot}
theorem j_runV (C : jx X cc nL own ret tc rm) (hm : jmv own idx y bytes maxL retc n ci) (hM : Met (j_l X) y (Cond.code y bytes maxL retc :: jtb) rmc (jPc (j_D X) tc (.ref b :: As) wc H.size) Qc 0 0 (va_A wc H.size)) (hr : rmc.cells = 0 ∧ rmc.slots = 0 ∧ rmc.frames + 1 ≤ rm.frames ∧ 8 + (maxL + 11) + rmc.locals ≤ rm.locals) (hn : As.length = n) (hP : va_P (j_D X) vwCl ws H) (hD : va_D (j_A X) ws) (qr : Nat) (hb : ws[qr]? = some (b, .inr (ci, fs))) (ps : List Nat) (hC : ps.map (fun i => ws[i]?) = wc.map some) (hnd : va_nd ps = true) (hst0 : st0 = As.reverse ++ .ref b :: st) (hst : (st.map fun v => v.category).sum ≤ 8) (hls : ls.size = nL) (hd : decode cc pc = .ok (.invokevirtual idx, 3)) :
    va_Run X.1 (j_l X) X.2.2.1 (j_R X) (j_s X) (j_m X) (j_a X) (j_b X) (j_me X) (j_c X) H locs 0 0 0 0 (F0 (j_m X) pc ls st0) st (Qc (Value.ref b :: As).toArray) (va_A wc H.size) := by
  obtain ⟨hx, hbb, hml, hown, hts, hK, -, -, -, hR, hN⟩ := C
  obtain ⟨⟨m1, m2, m3, m4⟩, m5, m6, T, N, m7⟩ := hm
  obtain ⟨r1, r2, r3, r4⟩ := hr
  have hcb := callB_of (R := j_R X) (rm := rmc) n hts (j_good m2) rfl r1 r2 (hts _ m3) (hts _ m1) m4 (by rw [hR]; exact ⟨r3, r4⟩)
  exact va_runV (C := y.cls) (b := b) (As := As) ⟨hx, hbb, hml, hown, hts⟩ hM ⟨hcb, hts _ m5, hts _ m6⟩ ⟨j_blind, va_recv hK hP (ci := ci) (q0 := qr) m7 hb, fun U hU hW => j_pre hK hN hP hD hC hnd hU hW⟩ rfl hn hls hst0 (lv_room hst) hd ⟨Nat.zero_le _, Nat.zero_le _⟩
theorem j_runS (C : jx X cc nL own ret tc rm) (hm : jms own idx y bytes maxL retc n) (hM : Met (j_l X) y (Cond.code y bytes maxL retc :: jtb) rmc (jPc (j_D X) tc As wc H.size) Qc 0 0 (va_A wc H.size)) (hr : rmc.cells = 0 ∧ rmc.slots = 0 ∧ rmc.frames + 1 ≤ rm.frames ∧ 8 + (maxL + 11) + rmc.locals ≤ rm.locals) (hn : As.length = n) (hP : va_P (j_D X) vwCl ws H) (hD : va_D (j_A X) ws) (ps : List Nat) (hC : ps.map (fun i => ws[i]?) = wc.map some) (hnd : va_nd ps = true) (hst0 : st0 = As.reverse ++ st) (hst : (st.map fun v => v.category).sum ≤ 8) (hls : ls.size = nL) (hd : decode cc pc = .ok (.invokestatic idx, 3)) :
    va_Run X.1 (j_l X) X.2.2.1 (j_R X) (j_s X) (j_m X) (j_a X) (j_b X) (j_me X) (j_c X) H locs 0 0 0 0 (F0 (j_m X) pc ls st0) st (Qc As.toArray) (va_A wc H.size) := by
  obtain ⟨hx, hbb, hml, hown, hts, hK, -, -, -, hR, hN⟩ := C
  obtain ⟨⟨m1, m2, m3, m4⟩, m5⟩ := hm
  obtain ⟨r1, r2, r3, r4⟩ := hr
  have hcb := callB_of (R := j_R X) (rm := rmc) n hts (j_good m2) rfl r1 r2 (hts _ m3) (hts _ m1) m4 (by rw [hR]; exact ⟨r3, r4⟩)
  exact va_runS (As := As) ⟨hx, hbb, hml, hown, hts⟩ hM ⟨hcb, hts _ m5⟩ ⟨j_blind, fun U hU hW => j_pre hK hN hP hD hC hnd hU hW⟩ rfl hn hls hst0 (lv_room hst) hd ⟨Nat.zero_le _, Nat.zero_le _⟩
/-- a static method of the nest that is private elsewhere -/
def jmn (own : String) (idx : Nat) (y : MethodName) (bytes : ByteArray) (maxL : Nat) (ret : Option FieldType) (n : Nat) (host : String) : Prop := (own, idx, y, host) ∈ jnests ∧ Cond.code y bytes maxL ret ∈ jtb ∧ Cond.initialized y.cls ∈ jtb ∧ (y.cls ≠ "java/lang/invoke/MethodHandle" ∧ y.cls ≠ "java/lang/invoke/VarHandle" ∧ (parseMethodDescriptor y.desc).map (fun d => d.parameters.length) = some n) ∧ Cond.static y ∈ jtb
theorem j_runN {host : String} (C : jx X cc nL own ret tc rm) (hm : jmn own idx y bytes maxL retc n host) (hM : Met (j_l X) y (Cond.code y bytes maxL retc :: jtb) rmc (jPc (j_D X) tc As wc H.size) Qc 0 0 (va_A wc H.size)) (hr : rmc.cells = 0 ∧ rmc.slots = 0 ∧ rmc.frames + 1 ≤ rm.frames ∧ 8 + (maxL + 11) + rmc.locals ≤ rm.locals) (hn : As.length = n) (hP : va_P (j_D X) vwCl ws H) (hD : va_D (j_A X) ws) (ps : List Nat) (hC : ps.map (fun i => ws[i]?) = wc.map some) (hnd : va_nd ps = true) (hst0 : st0 = As.reverse ++ st) (hst : (st.map fun v => v.category).sum ≤ 8) (hls : ls.size = nL) (hd : decode cc pc = .ok (.invokestatic idx, 3)) :
    va_Run X.1 (j_l X) X.2.2.1 (j_R X) (j_s X) (j_m X) (j_a X) (j_b X) (j_me X) (j_c X) H locs 0 0 0 0 (F0 (j_m X) pc ls st0) st (Qc As.toArray) (va_A wc H.size) := by
  obtain ⟨hx, hbb, hml, hown, hts, hK, -, -, -, hR, hN⟩ := C
  obtain ⟨m1, m2, m3, m4, m5⟩ := hm
  obtain ⟨r1, r2, r3, r4⟩ := hr
  have hcb := va_cnB (R := j_R X) (rm := rmc) n hts (j_good m2) rfl r1 r2 (hN _ m1) (hts _ m3) m4 (by rw [hR]; exact ⟨r3, r4⟩)
  exact va_runSN (As := As) ⟨hx, hbb, hml, hown, hts⟩ hM ⟨hcb, hts _ m5, trivial⟩ ⟨j_blind, fun U hU hW => j_pre hK hN hP hD hC hnd hU hW⟩ rfl hn hls hst0 (lv_room hst) hd ⟨Nat.zero_le _, Nat.zero_le _⟩
theorem j_callVI {S : Type} {O1 : Option (Int32 × S)} {F : Int32 × S → Option ρ} {wn : S → va_W} (C : jx X cc nL own ret tc rm) (hd : jd cc pc (.invokevirtual idx) 3 pc') (hm : jmv own idx y bytes maxL retc n ci) (hM : ctI (j_l X) (j_D X) tc y (Cond.code y bytes maxL retc :: jtb) rmc (.ref b :: As) wc O1 wn) (hr : rmc.cells = 0 ∧ rmc.slots = 0 ∧ rmc.frames + 1 ≤ rm.frames ∧ 8 + (maxL + 11) + rmc.locals ≤ rm.locals) (hn : As.length = n) (qr : Nat) (hb : ws[qr]? = some (b, .inr (ci, fs))) (ps : List Nat) (hC : ps.map (fun i => ws[i]?) = wc.map some) (hnd : va_nd ps = true) (hst0 : st0 = As.reverse ++ .ref b :: st) (hst : (st.map fun v => v.category).sum ≤ 8) (wf : S → va_W) (hws : ∀ u, jput ws ps (wn u) = wf u) (hlen : ∀ u, ps.length = (wn u).length) (hfst : ∀ u, (wf u).map (·.1) = ws.map (·.1)) (h : ∀ o, jo X nL (0, 0) Q (F o) (wf o.2) pc' lv (.int o.1 :: st)) : jo X nL (0, 0) Q (O1.bind F) ws pc lv st0 := by
  intro o ho H locs ls hP hD hS hl
  obtain ⟨h1, rfl⟩ := hd
  obtain ⟨o1, ho1, ho2⟩ := Option.bind_eq_some_iff.mp ho
  have hrun := j_runV (locs := locs) C hm (hM H.size o1 ho1) hr hn hP hD qr hb ps hC hnd hst0 hst hl.1 h1
  have hF := va_free hD hS C.2.2.2.2.2.2.2.2.1 ps hC
  refine va_calli hrun hS (fun q _ h => hF q h) hF (fun r u t H1 locs1 ht hvm hw hB hz1 hk1 hS1 => ?_)
  subst hw
  rw [ht] at hB
  obtain ⟨hP2, hD2⟩ := j_after hP hD hC hk1 hB (hlen u) (hws u) (hfst u)
  exact h (r, u) o ho2 H1 locs1 ls hP2 hD2 hS1 hl
theorem j_callVI0 {O1 : Option Int32} {F : Int32 → Option ρ} (C : jx X cc nL own ret tc rm) (hd : jd cc pc (.invokevirtual idx) 3 pc') (hm : jmv own idx y bytes maxL retc n ci) (hM : ctI0 (j_l X) (j_D X) tc y (Cond.code y bytes maxL retc :: jtb) rmc (.ref b :: As) wc O1) (hr : rmc.cells = 0 ∧ rmc.slots = 0 ∧ rmc.frames + 1 ≤ rm.frames ∧ 8 + (maxL + 11) + rmc.locals ≤ rm.locals) (hn : As.length = n) (qr : Nat) (hb : ws[qr]? = some (b, .inr (ci, fs))) (ps : List Nat) (hC : ps.map (fun i => ws[i]?) = wc.map some) (hnd : va_nd ps = true) (hst0 : st0 = As.reverse ++ .ref b :: st) (hst : (st.map fun v => v.category).sum ≤ 8) (h : ∀ r, jo X nL (0, 0) Q (F r) ws pc' lv (.int r :: st)) : jo X nL (0, 0) Q (O1.bind F) ws pc lv st0 := by
  intro o ho H locs ls hP hD hS hl
  obtain ⟨h1, rfl⟩ := hd
  obtain ⟨o1, ho1, ho2⟩ := Option.bind_eq_some_iff.mp ho
  have hrun := j_runV (locs := locs) C hm (hM H.size o1 ho1) hr hn hP hD qr hb ps hC hnd hst0 hst hl.1 h1
  have hF := va_free hD hS C.2.2.2.2.2.2.2.2.1 ps hC
  refine va_calli hrun hS (fun q _ h => hF q h) hF (fun r u t H1 locs1 ht hvm hw hB hz1 hk1 hS1 => ?_)
  subst hw
  rw [ht] at hB
  obtain ⟨hP2, hD2⟩ := j_after hP hD hC hk1 hB (by have := congrArg List.length hC; simpa using this) (jput_same ps wc ws hC) rfl
  exact h _ o ho2 H1 locs1 ls hP2 hD2 hS1 hl
theorem j_callVL {S : Type} {O1 : Option (Int64 × S)} {F : Int64 × S → Option ρ} {wn : S → va_W} (C : jx X cc nL own ret tc rm) (hd : jd cc pc (.invokevirtual idx) 3 pc') (hm : jmv own idx y bytes maxL retc n ci) (hM : ctL (j_l X) (j_D X) tc y (Cond.code y bytes maxL retc :: jtb) rmc (.ref b :: As) wc O1 wn) (hr : rmc.cells = 0 ∧ rmc.slots = 0 ∧ rmc.frames + 1 ≤ rm.frames ∧ 8 + (maxL + 11) + rmc.locals ≤ rm.locals) (hn : As.length = n) (qr : Nat) (hb : ws[qr]? = some (b, .inr (ci, fs))) (ps : List Nat) (hC : ps.map (fun i => ws[i]?) = wc.map some) (hnd : va_nd ps = true) (hst0 : st0 = As.reverse ++ .ref b :: st) (hst : (st.map fun v => v.category).sum ≤ 8) (wf : S → va_W) (hws : ∀ u, jput ws ps (wn u) = wf u) (hlen : ∀ u, ps.length = (wn u).length) (hfst : ∀ u, (wf u).map (·.1) = ws.map (·.1)) (h : ∀ o, jo X nL (0, 0) Q (F o) (wf o.2) pc' lv (.long o.1 :: st)) : jo X nL (0, 0) Q (O1.bind F) ws pc lv st0 := by
  intro o ho H locs ls hP hD hS hl
  obtain ⟨h1, rfl⟩ := hd
  obtain ⟨o1, ho1, ho2⟩ := Option.bind_eq_some_iff.mp ho
  have hrun := j_runV (locs := locs) C hm (hM H.size o1 ho1) hr hn hP hD qr hb ps hC hnd hst0 hst hl.1 h1
  have hF := va_free hD hS C.2.2.2.2.2.2.2.2.1 ps hC
  refine va_calll hrun hS (fun q _ h => hF q h) hF (fun r u t H1 locs1 ht hvm hw hB hz1 hk1 hS1 => ?_)
  subst hw
  rw [ht] at hB
  obtain ⟨hP2, hD2⟩ := j_after hP hD hC hk1 hB (hlen u) (hws u) (hfst u)
  exact h (r, u) o ho2 H1 locs1 ls hP2 hD2 hS1 hl
theorem j_callVL0 {O1 : Option Int64} {F : Int64 → Option ρ} (C : jx X cc nL own ret tc rm) (hd : jd cc pc (.invokevirtual idx) 3 pc') (hm : jmv own idx y bytes maxL retc n ci) (hM : ctL0 (j_l X) (j_D X) tc y (Cond.code y bytes maxL retc :: jtb) rmc (.ref b :: As) wc O1) (hr : rmc.cells = 0 ∧ rmc.slots = 0 ∧ rmc.frames + 1 ≤ rm.frames ∧ 8 + (maxL + 11) + rmc.locals ≤ rm.locals) (hn : As.length = n) (qr : Nat) (hb : ws[qr]? = some (b, .inr (ci, fs))) (ps : List Nat) (hC : ps.map (fun i => ws[i]?) = wc.map some) (hnd : va_nd ps = true) (hst0 : st0 = As.reverse ++ .ref b :: st) (hst : (st.map fun v => v.category).sum ≤ 8) (h : ∀ r, jo X nL (0, 0) Q (F r) ws pc' lv (.long r :: st)) : jo X nL (0, 0) Q (O1.bind F) ws pc lv st0 := by
  intro o ho H locs ls hP hD hS hl
  obtain ⟨h1, rfl⟩ := hd
  obtain ⟨o1, ho1, ho2⟩ := Option.bind_eq_some_iff.mp ho
  have hrun := j_runV (locs := locs) C hm (hM H.size o1 ho1) hr hn hP hD qr hb ps hC hnd hst0 hst hl.1 h1
  have hF := va_free hD hS C.2.2.2.2.2.2.2.2.1 ps hC
  refine va_calll hrun hS (fun q _ h => hF q h) hF (fun r u t H1 locs1 ht hvm hw hB hz1 hk1 hS1 => ?_)
  subst hw
  rw [ht] at hB
  obtain ⟨hP2, hD2⟩ := j_after hP hD hC hk1 hB (by have := congrArg List.length hC; simpa using this) (jput_same ps wc ws hC) rfl
  exact h _ o ho2 H1 locs1 ls hP2 hD2 hS1 hl
theorem j_callVV {S : Type} {O1 : Option S} {F : S → Option ρ} {wn : S → va_W} (C : jx X cc nL own ret tc rm) (hd : jd cc pc (.invokevirtual idx) 3 pc') (hm : jmv own idx y bytes maxL retc n ci) (hM : ctV (j_l X) (j_D X) tc y (Cond.code y bytes maxL retc :: jtb) rmc (.ref b :: As) wc O1 wn) (hr : rmc.cells = 0 ∧ rmc.slots = 0 ∧ rmc.frames + 1 ≤ rm.frames ∧ 8 + (maxL + 11) + rmc.locals ≤ rm.locals) (hn : As.length = n) (qr : Nat) (hb : ws[qr]? = some (b, .inr (ci, fs))) (ps : List Nat) (hC : ps.map (fun i => ws[i]?) = wc.map some) (hnd : va_nd ps = true) (hst0 : st0 = As.reverse ++ .ref b :: st) (hst : (st.map fun v => v.category).sum ≤ 8) (wf : S → va_W) (hws : ∀ u, jput ws ps (wn u) = wf u) (hlen : ∀ u, ps.length = (wn u).length) (hfst : ∀ u, (wf u).map (·.1) = ws.map (·.1)) (h : ∀ o, jo X nL (0, 0) Q (F o) (wf o) pc' lv st) : jo X nL (0, 0) Q (O1.bind F) ws pc lv st0 := by
  intro o ho H locs ls hP hD hS hl
  obtain ⟨h1, rfl⟩ := hd
  obtain ⟨o1, ho1, ho2⟩ := Option.bind_eq_some_iff.mp ho
  have hrun := j_runV (locs := locs) C hm (hM H.size o1 ho1) hr hn hP hD qr hb ps hC hnd hst0 hst hl.1 h1
  have hF := va_free hD hS C.2.2.2.2.2.2.2.2.1 ps hC
  refine va_callv hrun hS (fun q _ h => hF q h) hF (fun u t H1 locs1 ht hvm hw hB hz1 hk1 hS1 => ?_)
  subst hw
  rw [ht] at hB
  obtain ⟨hP2, hD2⟩ := j_after hP hD hC hk1 hB (hlen u) (hws u) (hfst u)
  exact h u o ho2 H1 locs1 ls hP2 hD2 hS1 hl
theorem j_callSI0 {O1 : Option Int32} {F : Int32 → Option ρ} (C : jx X cc nL own ret tc rm) (hd : jd cc pc (.invokestatic idx) 3 pc') (hm : jms own idx y bytes maxL retc n) (hM : ctI0 (j_l X) (j_D X) tc y (Cond.code y bytes maxL retc :: jtb) rmc As wc O1) (hr : rmc.cells = 0 ∧ rmc.slots = 0 ∧ rmc.frames + 1 ≤ rm.frames ∧ 8 + (maxL + 11) + rmc.locals ≤ rm.locals) (hn : As.length = n) (ps : List Nat) (hC : ps.map (fun i => ws[i]?) = wc.map some) (hnd : va_nd ps = true) (hst0 : st0 = As.reverse ++ st) (hst : (st.map fun v => v.category).sum ≤ 8) (h : ∀ r, jo X nL (0, 0) Q (F r) ws pc' lv (.int r :: st)) : jo X nL (0, 0) Q (O1.bind F) ws pc lv st0 := by
  intro o ho H locs ls hP hD hS hl
  obtain ⟨h1, rfl⟩ := hd
  obtain ⟨o1, ho1, ho2⟩ := Option.bind_eq_some_iff.mp ho
  have hrun := j_runS (locs := locs) C hm (hM H.size o1 ho1) hr hn hP hD ps hC hnd hst0 hst hl.1 h1
  have hF := va_free hD hS C.2.2.2.2.2.2.2.2.1 ps hC
  refine va_calli hrun hS (fun q _ h => hF q h) hF (fun r u t H1 locs1 ht hvm hw hB hz1 hk1 hS1 => ?_)
  subst hw
  rw [ht] at hB
  obtain ⟨hP2, hD2⟩ := j_after hP hD hC hk1 hB (by have := congrArg List.length hC; simpa using this) (jput_same ps wc ws hC) rfl
  exact h _ o ho2 H1 locs1 ls hP2 hD2 hS1 hl
theorem j_callSL0 {O1 : Option Int64} {F : Int64 → Option ρ} (C : jx X cc nL own ret tc rm) (hd : jd cc pc (.invokestatic idx) 3 pc') (hm : jms own idx y bytes maxL retc n) (hM : ctL0 (j_l X) (j_D X) tc y (Cond.code y bytes maxL retc :: jtb) rmc As wc O1) (hr : rmc.cells = 0 ∧ rmc.slots = 0 ∧ rmc.frames + 1 ≤ rm.frames ∧ 8 + (maxL + 11) + rmc.locals ≤ rm.locals) (hn : As.length = n) (ps : List Nat) (hC : ps.map (fun i => ws[i]?) = wc.map some) (hnd : va_nd ps = true) (hst0 : st0 = As.reverse ++ st) (hst : (st.map fun v => v.category).sum ≤ 8) (h : ∀ r, jo X nL (0, 0) Q (F r) ws pc' lv (.long r :: st)) : jo X nL (0, 0) Q (O1.bind F) ws pc lv st0 := by
  intro o ho H locs ls hP hD hS hl
  obtain ⟨h1, rfl⟩ := hd
  obtain ⟨o1, ho1, ho2⟩ := Option.bind_eq_some_iff.mp ho
  have hrun := j_runS (locs := locs) C hm (hM H.size o1 ho1) hr hn hP hD ps hC hnd hst0 hst hl.1 h1
  have hF := va_free hD hS C.2.2.2.2.2.2.2.2.1 ps hC
  refine va_calll hrun hS (fun q _ h => hF q h) hF (fun r u t H1 locs1 ht hvm hw hB hz1 hk1 hS1 => ?_)
  subst hw
  rw [ht] at hB
  obtain ⟨hP2, hD2⟩ := j_after hP hD hC hk1 hB (by have := congrArg List.length hC; simpa using this) (jput_same ps wc ws hC) rfl
  exact h _ o ho2 H1 locs1 ls hP2 hD2 hS1 hl
theorem j_callNI0 {host : String} {O1 : Option Int32} {F : Int32 → Option ρ} (C : jx X cc nL own ret tc rm) (hd : jd cc pc (.invokestatic idx) 3 pc') (hm : jmn own idx y bytes maxL retc n host) (hM : ctI0 (j_l X) (j_D X) tc y (Cond.code y bytes maxL retc :: jtb) rmc As wc O1) (hr : rmc.cells = 0 ∧ rmc.slots = 0 ∧ rmc.frames + 1 ≤ rm.frames ∧ 8 + (maxL + 11) + rmc.locals ≤ rm.locals) (hn : As.length = n) (ps : List Nat) (hC : ps.map (fun i => ws[i]?) = wc.map some) (hnd : va_nd ps = true) (hst0 : st0 = As.reverse ++ st) (hst : (st.map fun v => v.category).sum ≤ 8) (h : ∀ r, jo X nL (0, 0) Q (F r) ws pc' lv (.int r :: st)) : jo X nL (0, 0) Q (O1.bind F) ws pc lv st0 := by
  intro o ho H locs ls hP hD hS hl
  obtain ⟨h1, rfl⟩ := hd
  obtain ⟨o1, ho1, ho2⟩ := Option.bind_eq_some_iff.mp ho
  have hrun := j_runN (locs := locs) C hm (hM H.size o1 ho1) hr hn hP hD ps hC hnd hst0 hst hl.1 h1
  have hF := va_free hD hS C.2.2.2.2.2.2.2.2.1 ps hC
  refine va_calli hrun hS (fun q _ h => hF q h) hF (fun r u t H1 locs1 ht hvm hw hB hz1 hk1 hS1 => ?_)
  subst hw
  rw [ht] at hB
  obtain ⟨hP2, hD2⟩ := j_after hP hD hC hk1 hB (by have := congrArg List.length hC; simpa using this) (jput_same ps wc ws hC) rfl
  exact h _ o ho2 H1 locs1 ls hP2 hD2 hS1 hl
end JCALL
