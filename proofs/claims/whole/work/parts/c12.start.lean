/-! THE CLAIM OUT OF ONE WALK OF THE LAW'S BODY. Your part is whole_start (and what it stands on); all else here is the same for every law, but numbers. -/
def R_law : String := "PredictiveGrammarLaw"
def lw_P (b : Addr) (xs : List Int32) (args : Array Value) (s : State) : Prop := args = #[.ref b] ∧ s.IntsAt b xs ∧ xs.length ≤ 3584 ∧ (Jvm.Cond.and given_1 narrow_1).before args s = true
def lw_Q (_ : Array Value) (s : State) (o : Outcome) (t : State) : Prop := o = .returned (some (.int 1)) ∧ Framed s o t [] 600000 7302250
def lw_Z (below : List Frame) (a : Array Value) (s : State) : State → Prop := fun t => ∃ o, t.status = .running ∧ Ended t below o ∧ lw_Q a s o t
/-- the law's own end, with 1 on the stack, nothing written that was there before, its room as the claim has it -/
theorem lw_ret {p : Program} {l : Launch} {e : Jvm.Env} {s : State} {m : MethodId} {below : List Frame} {meth : Method} {c : Code} {b : Nat} (hx : p.tables.exec = Jvm.exec) (hb : c.code = code) (hr : meth.sig.returnType = ret) (hlocks : meth.locks = false) {pc : Nat} {H : Heap} {ls : Array Slot} (hdg : decode code pc = .ok (.ireturn, 1)) : W p l e room_1 s m #[Value.ref b] below meth c H [] 600000 7302250 (lw_Z below #[Value.ref b] s) (F0 m pc ls [.int 1]) := by
  intro T hT X
  obtain ⟨fs, hret, hrun, hended, hW, hframe⟩ := X.leave (v := some (.int 1)) (hlocks := hlocks) (fun h => by rw [hr] at h; cases h)
  have hmeth' : T.vm.method? m = some meth := X.method'
  refine ⟨T.setFrames fs, ?_, .returned (some (.int 1)), hrun, hended, rfl, ⟨_, rfl⟩, hW, hframe⟩
  jvm_step X.here [X.here.top, hx, hb, hdg, hmeth', hr, ret, narrow_b1]
  (try refine ⟨rfl, ?_⟩); (try refine ⟨rfl, ?_⟩)
  first | (intro acts; rw [hret _ acts rfl rfl rfl]) | rw [hret _ _ rfl rfl rfl]
  exact Steps.refl _
/-- what holds at the law's entry: the machine, the code, the tables' words (any of lw_tbl by 'hts w (by decide +kernel)'), the script of L ints xs at the cell b, what the Statement gives of the start (any of its parts by flat_of_before) -/
def lw_At (p : Program) (s : State) (m : MethodId) (meth : Method) (c : Code) (b L : Nat) (xs : Nat → Int32) : Prop :=
  p.tables.exec = Jvm.exec ∧ c.code = code ∧ meth.sig.returnType = ret ∧ c.maxLocals = 4 ∧ s.vm.findClass R_law = some m.cls ∧ (∀ w ∈ lw_tbl, w.before #[Value.ref b] s = true) ∧ va_X b L xs s s.heap ∧ b < s.heap.size ∧ meth.locks = false ∧ (Jvm.Cond.and given_1 narrow_1).before #[Value.ref b] s = true
set_option maxRecDepth 20000 in
theorem lw_over : Cond.arrayOver (.object "PredictiveGrammar$Rules") ∈ lw_tbl := List.mem_append_right _ (by unfold tables_1; exact (List.mem_append_left _ (List.mem_of_getElem? (i := 56) rfl)))
set_option maxRecDepth 20000 in
theorem lw_nst0 : Cond.methodLinkNest RX11 11 yX6_init RX11 ∈ lw_tbl := List.mem_append_right _ (by unfold tables_1; exact (List.mem_append_left _ (List.mem_of_getElem? (i := 26) rfl)))
set_option maxRecDepth 20000 in
theorem lw_nst1 : Cond.methodLinkNest RX2 17 yX6_init RX11 ∈ lw_tbl := List.mem_append_right _ (by unfold tables_1; exact (List.mem_append_left _ (List.mem_of_getElem? (i := 57) rfl)))
set_option maxRecDepth 20000 in
theorem lw_nst2 : Cond.methodLinkNest RX11 25 yX7_init RX11 ∈ lw_tbl := List.mem_append_right _ (by unfold tables_1; exact (List.mem_append_left _ (List.mem_of_getElem? (i := 71) rfl)))
set_option maxRecDepth 20000 in
theorem lw_nst3 : Cond.methodLinkNest RX11 44 yX1_init RX11 ∈ lw_tbl := List.mem_append_right _ (by unfold tables_1; exact (List.mem_append_left _ (List.mem_of_getElem? (i := 122) rfl)))
set_option maxRecDepth 20000 in
theorem lw_nst4 : Cond.methodLinkNest RX11 51 yX3_init RX11 ∈ lw_tbl := List.mem_append_right _ (by unfold tables_1; exact (List.mem_append_left _ (List.mem_of_getElem? (i := 141) rfl)))
set_option maxRecDepth 20000 in
theorem lw_nst5 : Cond.methodLinkNest RX4 20 yX9_init RX11 ∈ lw_tbl := List.mem_append_right _ (by unfold tables_1; exact (List.mem_append_left _ (List.mem_of_getElem? (i := 164) rfl)))
set_option maxRecDepth 20000 in
theorem lw_nst6 : Cond.methodLinkNest RX7 31 yX11_bit RX11 ∈ lw_tbl := List.mem_append_right _ (by unfold tables_1; exact (List.mem_append_right _ (List.mem_append_left _ (List.mem_of_getElem? (i := 82) rfl))))
set_option maxRecDepth 20000 in
theorem lw_nst7 : Cond.methodLinkNest RX8 68 yX11_bit RX11 ∈ lw_tbl := List.mem_append_right _ (by unfold tables_1; exact (List.mem_append_right _ (List.mem_append_left _ (List.mem_of_getElem? (i := 215) rfl))))
set_option maxRecDepth 20000 in
theorem lw_nst8 : Cond.methodLinkNest RX6 58 yX11_bit RX11 ∈ lw_tbl := List.mem_append_right _ (by unfold tables_1; exact (List.mem_append_right _ (List.mem_append_right _ (List.mem_append_right _ (List.mem_append_left _ (List.mem_of_getElem? (i := 56) rfl))))))
set_option maxRecDepth 20000 in
theorem lw_nst9 : Cond.methodLinkNest RX4 168 yX11_bit RX11 ∈ lw_tbl := List.mem_append_right _ (by unfold tables_1; exact (List.mem_append_right _ (List.mem_append_right _ (List.mem_append_right _ (List.mem_append_right _ (List.mem_append_left _ (List.mem_of_getElem? (i := 2) rfl)))))))
theorem lw_nsts : ∀ q ∈ jnests, Cond.methodLinkNest q.1 q.2.1 q.2.2.1 q.2.2.2 ∈ lw_tbl := by
  intro q hq
  simp only [jnests, List.mem_cons, List.not_mem_nil, or_false] at hq
  rcases hq with rfl | rfl | rfl | rfl | rfl | rfl | rfl | rfl | rfl | rfl
  · exact lw_nst0
  · exact lw_nst1
  · exact lw_nst2
  · exact lw_nst3
  · exact lw_nst4
  · exact lw_nst5
  · exact lw_nst6
  · exact lw_nst7
  · exact lw_nst8
  · exact lw_nst9
set_option maxRecDepth 20000 in
theorem lw_ins0 : Cond.instantiable RX0 4 ∈ jtb := j_in1 (i := 237) rfl rfl
set_option maxRecDepth 20000 in
theorem lw_ins1 : Cond.instantiable RX1 3 ∈ jtb := j_in1 (i := 121) rfl rfl
set_option maxRecDepth 20000 in
theorem lw_ins2 : Cond.instantiable RX2 3 ∈ jtb := j_in1 (i := 50) rfl rfl
set_option maxRecDepth 20000 in
theorem lw_ins3 : Cond.instantiable RX3 2 ∈ jtb := j_in1 (i := 140) rfl rfl
set_option maxRecDepth 20000 in
theorem lw_ins4 : Cond.instantiable RX4 15 ∈ jtb := j_in1 (i := 157) rfl rfl
set_option maxRecDepth 20000 in
theorem lw_ins5 : Cond.instantiable RX5 4 ∈ jtb := j_in2 (i := 38) rfl rfl
set_option maxRecDepth 20000 in
theorem lw_ins6 : Cond.instantiable RX6 2 ∈ jtb := j_in1 (i := 25) rfl rfl
set_option maxRecDepth 20000 in
theorem lw_ins7 : Cond.instantiable RX7 4 ∈ jtb := j_in1 (i := 70) rfl rfl
set_option maxRecDepth 20000 in
theorem lw_ins8 : Cond.instantiable RX8 6 ∈ jtb := j_in1 (i := 94) rfl rfl
set_option maxRecDepth 20000 in
theorem lw_ins9 : Cond.instantiable RX9 4 ∈ jtb := j_in1 (i := 163) rfl rfl
set_option maxRecDepth 20000 in
theorem lw_ins10 : Cond.instantiable RX10 3 ∈ jtb := j_in2 (i := 3) rfl rfl
set_option maxRecDepth 20000 in
theorem lw_ins11 : Cond.instantiable RX11 10 ∈ jtb := j_in1 (i := 17) rfl rfl
set_option maxRecDepth 20000 in
theorem lw_ins12 : Cond.instantiable RX12 56 ∈ jtb := j_in5 (i := 104) rfl rfl
set_option maxHeartbeats 4000000 in
theorem lw_from {p : Program} {e : Jvm.Env} {s : State} {m : MethodId} {below : List Frame} {meth : Method} {c : Code} (l : Launch) {b L N F : Nat} {xs : Nat → Int32} (hpure : ((fX11_init N).bind fun u => fX12_init.bind fun _ => itr (lwB N L xs) F (0, a0I u, m0I)) = some ()) (C0 : lw_At p s m meth c b L xs) : W p l e room_1 s m #[Value.ref b] below meth c s.heap [] 0 0 (lw_Z below #[Value.ref b] s) (entryFrame m ([Value.ref b] : List Value).toArray 4) := by
  obtain ⟨hx, hb, hr, hml, hown, hts, hXs, hbl, hlocks, hgv⟩ := id C0
  have hbA : ¬ (fun q : Nat => s.heap.size ≤ q) b := Nat.not_le.mpr hbl
  have hj : ∀ w ∈ jtb, w.before #[Value.ref b] s = true := fun w hw => hts w (List.mem_filter.mp hw).1
  obtain ⟨c0, i0, k0⟩ := u_known (C := RX0) (T := TX0) (N := 4) (n := 4) hts (fun w hw => (List.mem_filter.mp (inX0 w hw)).1) (hj _ lw_ins0)
  obtain ⟨c1, i1, k1⟩ := u_known (C := RX1) (T := TX1) (N := 3) (n := 3) hts (fun w hw => (List.mem_filter.mp (inX1 w hw)).1) (hj _ lw_ins1)
  obtain ⟨c2, i2, k2⟩ := u_known (C := RX2) (T := TX2) (N := 3) (n := 3) hts (fun w hw => (List.mem_filter.mp (inX2 w hw)).1) (hj _ lw_ins2)
  obtain ⟨c3, i3, k3⟩ := u_known (C := RX3) (T := TX3) (N := 2) (n := 2) hts (fun w hw => (List.mem_filter.mp (inX3 w hw)).1) (hj _ lw_ins3)
  obtain ⟨c4, i4, k4⟩ := u_known (C := RX4) (T := TX4) (N := 15) (n := 15) hts (fun w hw => (List.mem_filter.mp (inX4 w hw)).1) (hj _ lw_ins4)
  obtain ⟨c5, i5, k5⟩ := u_known (C := RX5) (T := TX5) (N := 4) (n := 4) hts (fun w hw => (List.mem_filter.mp (inX5 w hw)).1) (hj _ lw_ins5)
  obtain ⟨c6, i6, k6⟩ := u_known (C := RX6) (T := TX6) (N := 2) (n := 2) hts (fun w hw => (List.mem_filter.mp (inX6 w hw)).1) (hj _ lw_ins6)
  obtain ⟨c7, i7, k7⟩ := u_known (C := RX7) (T := TX7) (N := 4) (n := 4) hts (fun w hw => (List.mem_filter.mp (inX7 w hw)).1) (hj _ lw_ins7)
  obtain ⟨c8, i8, k8⟩ := u_known (C := RX8) (T := TX8) (N := 6) (n := 6) hts (fun w hw => (List.mem_filter.mp (inX8 w hw)).1) (hj _ lw_ins8)
  obtain ⟨c9, i9, k9⟩ := u_known (C := RX9) (T := TX9) (N := 4) (n := 4) hts (fun w hw => (List.mem_filter.mp (inX9 w hw)).1) (hj _ lw_ins9)
  obtain ⟨c10, i10, k10⟩ := u_known (C := RX10) (T := TX10) (N := 3) (n := 3) hts (fun w hw => (List.mem_filter.mp (inX10 w hw)).1) (hj _ lw_ins10)
  obtain ⟨c11, i11, k11⟩ := u_known (C := RX11) (T := TX11) (N := 10) (n := 10) hts (fun w hw => (List.mem_filter.mp (inX11 w hw)).1) (hj _ lw_ins11)
  obtain ⟨c12, i12, k12⟩ := u_known (C := RX12) (T := TX12) (N := 56) (n := 56) hts (fun w hw => (List.mem_filter.mp (inX12 w hw)).1) (hj _ lw_ins12)
  obtain ⟨dC, dI, hKc⟩ : ∃ (dC : Nat → ClassId) (dI : Nat → Nat → Nat), ∀ (k : Nat) (q : vw_C), vwCl[k]? = some q → u_Kn s q.1 q.2.1 q.2.2 (dC k) (dI k) := by
    refine ⟨fun k => [c0, c1, c2, c3, c4, c5, c6, c7, c8, c9, c10, c11, c12].getD k c0, fun k => [i0, i1, i2, i3, i4, i5, i6, i7, i8, i9, i10, i11, i12].getD k i0, ?_⟩
    intro k q hq
    match k, hq with
    | 0, hq => cases hq; exact k0
    | 1, hq => cases hq; exact k1
    | 2, hq => cases hq; exact k2
    | 3, hq => cases hq; exact k3
    | 4, hq => cases hq; exact k4
    | 5, hq => cases hq; exact k5
    | 6, hq => cases hq; exact k6
    | 7, hq => cases hq; exact k7
    | 8, hq => cases hq; exact k8
    | 9, hq => cases hq; exact k9
    | 10, hq => cases hq; exact k10
    | 11, hq => cases hq; exact k11
    | 12, hq => cases hq; exact k12
    | k + 13, hq => simp [vwCl] at hq
  obtain ⟨t1, ka, ca, h1, h2, h3⟩ := Cond.arrayClass_spec (hj _ lw_aI)
  obtain ⟨t2, kb, cb, h4, h5, h6⟩ := Cond.arrayClass_spec (hj _ lw_aL)
  have hao : va_AO "PredictiveGrammar$Rules" s := va_AO.of (hts _ lw_over)
  obtain ⟨comp, t3, kc, g1, g2, g3, g4, g5⟩ := Cond.arrayOver_spec hao
  have hK : va_K (dC, dI) vwCl (jT (t1, t2, t3)) s := by
    refine ⟨hKc, fun k q hq => ?_⟩
    match k, hq with
    | 0, hq => cases hq; exact ⟨fun n z => ⟨fun k h => (by cases h), ka, h2, ca, h3⟩, h1⟩
    | 1, hq => cases hq; exact ⟨fun n z => ⟨fun k h => (by cases h), kb, h5, cb, h6⟩, h4⟩
    | 2, hq => cases hq; exact ⟨fun n z => ⟨fun k h => (by cases h), kc, g3, comp, g4⟩, kc, comp, g3, g4, g1, g5⟩
    | k + 3, hq => simp at hq
  have hN : jNw s := ⟨fun q hq => va_Nw.of rfl (hts _ (lw_nsts q hq)), hao⟩
  have C : jx (p, l, e, room_1, s, m, #[Value.ref b], below, meth, c, (dC, dI), fun q : Nat => s.heap.size ≤ q) cL_law 4 RL ret (t1, t2, t3) room_1 := ⟨hx, hb, hml, hown, hj, hK, hr, hlocks, fun q h => h, rfl, hN⟩
  have hend : ∀ (ws : va_W) (lv : List (Nat × Value)), jo (p, l, e, room_1, s, m, #[Value.ref b], below, meth, c, (dC, dI), fun q : Nat => s.heap.size ≤ q) 4 (99, 42625) (fun (_ : Unit) => lw_Z below #[Value.ref b] s) (some ()) ws 1318 lv [] := fun ws lv => j_const C dL_1318 (fun o ho H locs ls hP hD hS hl => va_forget (fun q hq => hS.2.2 q hq) (W.widen (k := 600000) (n := 7302250) (Nat.le_of_ble_eq_true rfl) (Nat.le_of_ble_eq_true rfl) (lw_ret hx hb hr hlocks dL_1319)))
  have hP : va_P (dC, dI) vwCl [] s.heap := fun k q h => by simp at h
  have hD : va_D (fun q : Nat => s.heap.size ≤ q) [] := ⟨fun i j p q h => by simp at h, fun k q h => by simp at h⟩
  have hl := lv_entry ([.ref b]) (n := 4) (Nat.le_of_ble_eq_true rfl)
  rw [lg_entry_eq]
  generalize (lg_sl ([.ref b]) ++ List.replicate (4 - (lg_sl ([.ref b])).length) Slot.unset).toArray = ls at hl ⊢
  have hl : lv_has ls 4 [(0, .ref b)] := hl
  exact lw_begin _ C ⟨hXs, hbl, hbA⟩ hend F () hpure s.heap [] ls hP hD va_S.rf hl
