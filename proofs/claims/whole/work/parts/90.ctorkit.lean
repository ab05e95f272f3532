/-! MAKING: the constructors' rows. kn counts what was made -/
def jnw (own : String) (idx ci N : Nat) (fs : List Value) : Prop := ∃ (C : String) (T : u_T) (ty : Nat → FieldType), vwCl[ci]? = some (C, T, N) ∧ Cond.classLink own idx C ∈ jtb ∧ Cond.instantiable C N ∈ jtb ∧ Cond.initialized C ∈ jtb ∧ (∀ w ∈ u_ws C T N, w ∈ jtb) ∧ (∀ k, k < N → parseFieldDescriptor (T k).2.2.1 = some (ty k)) ∧ (∀ j, j < N → defaultValue (ty j) = vp_V fs j)
section JN
variable {ρ : Type} {X : jC} {cc : ByteArray} {nL : Nat} {own : String} {ret : Option FieldType} {tc : jTC} {rm : Room} {k n : Nat} {Q : ρ → State → Prop} {O : Option ρ} {ws : va_W} {pc pc' : Nat} {lv : List (Nat × Value)} {st : List Value}
theorem j_objInit (C : jx X cc nL own ret tc rm) {idx a : Nat} (hd : jd cc pc (.invokespecial idx) 3 pc') (hl0 : Cond.methodLink own idx objectInit ∈ jtb) (hi : Cond.instanceMethod objectInit ∈ jtb) (hc : Cond.code objectInit ⟨#[0xb1]⟩ 1 none ∈ jtb) (hr : 1 ≤ rm.frames ∧ 20 ≤ rm.locals) (hst : (st.map fun v => v.category).sum ≤ 8) (h : jo X nL (k, n) Q O ws pc' lv st) : jo X nL (k, n) Q O ws pc lv (.ref a :: st) := by
  intro o ho H locs ls hP hD hS hl
  obtain ⟨h1, rfl⟩ := hd
  have hR : j_R X = rm := C.2.2.2.2.2.2.2.2.2.1
  refine W.objInit C.1 C.2.1 C.2.2.2.1 (C.2.2.2.2.1 _ hl0) (C.2.2.2.2.1 _ hi) (C.2.2.2.2.1 _ hc) rfl (by rw [C.2.2.1]; exact hl.1) rfl h1 (by rw [hR]; exact hr.1) (by rw [hR]; show 2 * 0 + _ + 12 ≤ _; omega) ?_
  exact h o ho H locs ls hP hD hS hl
theorem j_new (C : jx X cc nL own ret tc rm) {idx ci N : Nat} {fs : List Value} (wf : Nat → va_W) (hd : jd cc pc (.new idx) 3 pc') (hb : jnw own idx ci N fs) (hr : k + 1 ≤ rm.cells ∧ n + N ≤ rm.slots) (hw : ∀ q, ws ++ [(q, .inr (ci, fs))] = wf q) (h : ∀ q, jo X nL (k + 1, n + N) Q O (wf q) pc' lv (.ref q :: st)) : jo X nL (k, n) Q O ws pc lv st := by
  intro o ho H locs ls hP hD hS hl
  obtain ⟨h1, rfl⟩ := hd
  have hR : j_R X = rm := C.2.2.2.2.2.2.2.2.2.1
  obtain ⟨Cn, T, ty, e1, e2, e3, e4, e5, e6, e7⟩ := hb
  refine va_new C.1 C.2.1 C.2.2.2.2.1 e5 ty e6 C.2.2.2.1 (C.2.2.2.2.1 _ e2) (C.2.2.2.2.1 _ e3) (C.2.2.2.2.1 _ e4) C.2.2.2.2.2.1 hP hD hS C.2.2.2.2.2.2.2.2.1 e1 e7 (by rw [hR]; exact hr.1) (by rw [hR]; exact hr.2) h1 (fun q H1 hP1 hD1 hS1 => ?_)
  rw [hw] at hP1 hD1
  exact h q o ho H1 locs ls hP1 hD1 hS1 hl
theorem j_same {tc : jTC} {D : va_G} {U : State} {cA : ClassId} (hK : va_K D vwCl (jT tc ++ [(cA, .int)]) U) : cA = tc.1 := by
  have h0 := (hK.2 0 (tc.1, .int) rfl).2
  have h3 := (hK.2 3 (cA, .int) rfl).2
  exact Option.some.inj (h3.symm.trans h0)
theorem j_sameL {tc : jTC} {D : va_G} {U : State} {cA : ClassId} (hK : va_K D vwCl (jT tc ++ [(cA, .long)]) U) : cA = tc.2.1 := by
  have h0 := (hK.2 1 (tc.2.1, .long) rfl).2
  have h3 := (hK.2 3 (cA, .long) rfl).2
  exact Option.some.inj (h3.symm.trans h0)
theorem j_sameR {tc : jTC} {D : va_G} {U : State} {cA : ClassId} (hK : va_K D vwCl (jT tc ++ [(cA, .object "PredictiveGrammar$Rules")]) U) : cA = tc.2.2 := by
  obtain ⟨_, _, _, _, _, h0⟩ := (hK.2 2 (tc.2.2, .object "PredictiveGrammar$Rules") rfl).2
  obtain ⟨_, _, _, _, _, h3⟩ := (hK.2 3 (cA, .object "PredictiveGrammar$Rules") rfl).2
  exact Option.some.inj (h3.symm.trans h0)
theorem j_newi (C : jx X cc nL own ret tc rm) {x : Int32} {N : Nat} (wf : Nat → va_W) (hd : jd cc pc (.newarray .int) 2 pc') (ha : Cond.arrayClass .int ∈ jtb) (hx : x = nI N) (hN : N < 100000) (hr : k + 1 ≤ rm.cells ∧ n + N ≤ rm.slots) (hw : ∀ q, ws ++ [(q, .inl (tc.1, N, .inl (fun _ => 0)))] = wf q) (h : ∀ q, jo X nL (k + 1, n + N) Q O (wf q) pc' lv (.ref q :: st)) : jo X nL (k, n) Q O ws pc lv (.int x :: st) := by
  intro o ho H locs ls hP hD hS hl
  obtain ⟨h1, rfl⟩ := hd
  have hR : j_R X = rm := C.2.2.2.2.2.2.2.2.2.1
  subst hx
  refine va_newa (atype := .int) C.1 C.2.1 (C.2.2.2.2.1 _ ha) (ty := .int) rfl C.2.2.2.2.2.1 hP hD hS C.2.2.2.2.2.2.2.2.1 (N' := N) (a0 := (N, .inl (fun _ => 0))) (fun cA => rfl) (nI_pos (by omega)) (nI_clamp (by omega)) (by show N * 4 ≤ _; omega) (by rw [hR]; exact hr.1) (by rw [hR]; exact hr.2) h1 (fun q cA H1 hK1 hP1 hD1 hS1 => ?_)
  have e := j_same hK1
  subst e
  rw [hw] at hP1 hD1
  exact h q o ho H1 locs ls hP1 hD1 hS1 hl
theorem j_newl (C : jx X cc nL own ret tc rm) {x : Int32} {N : Nat} (wf : Nat → va_W) (hd : jd cc pc (.newarray .long) 2 pc') (ha : Cond.arrayClass .long ∈ jtb) (hx : x = nI N) (hN : N < 100000) (hr : k + 1 ≤ rm.cells ∧ n + N ≤ rm.slots) (hw : ∀ q, ws ++ [(q, .inl (tc.2.1, N, .inr (.inl (fun _ => 0))))] = wf q) (h : ∀ q, jo X nL (k + 1, n + N) Q O (wf q) pc' lv (.ref q :: st)) : jo X nL (k, n) Q O ws pc lv (.int x :: st) := by
  intro o ho H locs ls hP hD hS hl
  obtain ⟨h1, rfl⟩ := hd
  have hR : j_R X = rm := C.2.2.2.2.2.2.2.2.2.1
  subst hx
  refine va_newa (atype := .long) C.1 C.2.1 (C.2.2.2.2.1 _ ha) (ty := .long) rfl C.2.2.2.2.2.1 hP hD hS C.2.2.2.2.2.2.2.2.1 (N' := N) (a0 := (N, .inr (.inl (fun _ => 0)))) (fun cA => rfl) (nI_pos (by omega)) (nI_clamp (by omega)) (by show N * 8 ≤ _; omega) (by rw [hR]; exact hr.1) (by rw [hR]; exact hr.2) h1 (fun q cA H1 hK1 hP1 hD1 hS1 => ?_)
  have e := j_sameL hK1
  subst e
  rw [hw] at hP1 hD1
  exact h q o ho H1 locs ls hP1 hD1 hS1 hl
theorem j_newr (C : jx X cc nL own ret tc rm) {idx : Nat} {x : Int32} {N : Nat} (wf : Nat → va_W) (hd : jd cc pc (.anewarray idx) 3 pc') (ha : Cond.classLink own idx "PredictiveGrammar$Rules" ∈ jtb) (hx : x = nI N) (hN : N < 100000) (hr : k + 1 ≤ rm.cells ∧ n + N ≤ rm.slots) (hw : ∀ q, ws ++ [(q, .inl (tc.2.2, N, .inr (.inr (.inr (.inr (fun _ => none))))))] = wf q) (h : ∀ q, jo X nL (k + 1, n + N) Q O (wf q) pc' lv (.ref q :: st)) : jo X nL (k, n) Q O ws pc lv (.int x :: st) := by
  intro o ho H locs ls hP hD hS hl
  obtain ⟨h1, rfl⟩ := hd
  have hR : j_R X = rm := C.2.2.2.2.2.2.2.2.2.1
  subst hx
  refine va_newq C.1 C.2.1 C.2.2.2.1 (C.2.2.2.2.1 _ ha) C.2.2.2.2.2.2.2.2.2.2.2 C.2.2.2.2.2.1 hP hD hS C.2.2.2.2.2.2.2.2.1 (N' := N) (nI_pos (by omega)) (nI_clamp (by omega)) (by omega) (by rw [hR]; exact hr.1) (by rw [hR]; exact hr.2) h1 (fun q cA H1 hK1 hP1 hD1 hS1 => ?_)
  have e := j_sameR hK1
  subst e
  rw [hw] at hP1 hD1
  exact h q o ho H1 locs ls hP1 hD1 hS1 hl
theorem j_putF (C : jx X cc nL own ret tc rm) {idx ci f a : Nat} {fs : List Value} {v : Value} {ty : FieldType} {ws' : va_W} (hin : (j_me X).name = "<init>") (hd : jd cc pc (.putfield idx) 3 pc') (hf : jfp own idx ci f ty true) (q0 : Nat) (he : ws[q0]? = some (a, .inr (ci, fs))) (hn : narrow ty v = v) (hfit : fits ty v = true) (hlen : f < fs.length) (hw : ws.set q0 (a, .inr (ci, fs.set f v)) = ws') (h : jo X nL (k, n) Q O ws' pc' lv st) : jo X nL (k, n) Q O ws pc lv (v :: .ref a :: st) := by
  intro o ho H locs ls hP hD hS hl
  obtain ⟨h1, rfl⟩ := hd
  obtain ⟨Cn, T, N, ty0, e1, e2, e3, e4, e5, e6, e7, e8, e9⟩ := hf
  subst hw
  exact va_putF C.1 C.2.1 C.2.2.2.2.1 e3 ty0 e5 e6 C.2.2.2.1 C.2.2.2.2.2.1 hP hD hS q0 he e1 f e2 (C.2.2.2.2.1 _ e4) (fun _ h9 => h9) e7 hin e9 e8 hn hfit hlen h1 (fun H1 locs1 hP1 hD1 hS1 => h o ho H1 locs1 ls hP1 hD1 hS1 hl)
theorem j_aast (C : jx X cc nL own ret tc rm) {a N v : Nat} {vs : List Value} {f : Nat → Option Nat} {i : Int32} {j : Nat} {ws' : va_W} (hd : jd cc pc .aastore 1 pc') (q0 qk : Nat) (he : ws[q0]? = some (a, .inl (tc.2.2, N, .inr (.inr (.inr (.inr f)))))) (hv : ws[qk]? = some (v, .inr (6, vs))) (hi : i = nI j) (hj : j < N) (hN : N < 100000) (hw : ws.set q0 (a, .inl (tc.2.2, N, .inr (.inr (.inr (.inr (va_up f j (some v))))))) = ws') (h : jo X nL (k, n) Q O ws' pc' lv st) : jo X nL (k, n) Q O ws pc lv (.ref v :: .int i :: .ref a :: st) := by
  intro o ho H locs ls hP hD hS hl
  obtain ⟨h1, rfl⟩ := hd
  subst hi
  refine va_astq C.1 C.2.1 C.2.2.2.2.2.1 hP hD hS q0 2 qk 6 he (r := (RX6, TX6, 2)) rfl hv rfl (vp_in_nI hj (by omega)) h1 (fun H1 locs1 hP1 hD1 hS1 => ?_)
  rw [nI_clamp (by omega), hw] at hP1 hD1
  exact h o ho H1 locs1 ls hP1 hD1 hS1 hl
end JN
-- a constructor's contract: what it made stands behind its own cell
def jQC {S : Type} (X : jC) (mc ms : Nat) (wn : S → va_W → Prop) : S → State → Prop := fun o => MQ (j_b X) (va_Qv (fun w : va_W => wn o w) (fun w t => va_P (j_D X) vwCl w t.heap ∧ va_D (j_A X) w) (j_A X)) (j_a X) (j_s X) mc ms (j_A X)
def ctC {S : Type} (l : Launch) (D : va_G) (tc : jTC) (y : MethodName) (cw : List Cond) (rm : Room) (av : List Value) (wc : va_W) (mc ms : Nat) (O : Option S) (wn : S → va_W → Prop) : Prop := ∀ (sz : Nat) (o : S), O = some o → Met l y cw rm (jPc D tc av wc sz) (va_Qv (fun w : va_W => wn o w) (fun w t => va_P D vwCl w t.heap ∧ va_D (va_A wc sz) w) (va_A wc sz)) mc ms (va_A wc sz)
theorem j_cret {ρ : Type} {X : jC} {cc : ByteArray} {nL : Nat} {own : String} {tc : jTC} {rm : Room} {k n : Nat} {ws : va_W} {pc : Nat} {lv : List (Nat × Value)} {wn : ρ → va_W → Prop} {o : ρ} (C : jx X cc nL own none tc rm) (hd : decode cc pc = .ok (.return_, 1)) (hw : wn o ws) : jo X nL (k, n) (jQC X k n wn) (some o) ws pc lv [] := by
  intro o' ho H locs ls hP hD hS hl
  cases ho
  exact W.vret C.1 C.2.1 C.2.2.2.2.2.2.1 (fun t ht hW => ⟨⟨ws, rfl, hw, by show va_P _ _ _ t.heap; rw [ht]; exact hP, hD⟩, hS.F ht⟩) hS.2.2 hd C.2.2.2.2.2.2.2.1
theorem ctC_of {S : Type} {l : Launch} {D : va_G} {tc : jTC} {y : MethodName} {cc : ByteArray} {maxL : Nat} {rm : Room} {vs : List Value} {wc : va_W} {mc ms : Nat} {O : Option S} {wn : S → va_W → Prop} {lv0 : List (Nat × Value)} (hy : plainName y.cls = true) (hnm : y.name = "<init>") (hn : (lg_sl vs).length ≤ maxL) (hlv : lv_args 0 vs = lv0)
    (body : ∀ X : jC, jx X cc maxL y.cls none tc rm → (j_me X).name = "<init>" → jo X maxL (0, 0) (jQC X mc ms wn) O wc 0 lv0 []) : ctC l D tc y (Cond.code y cc maxL none :: jtb) rm vs wc mc ms O wn := by
  intro sz o ho
  refine Met.ofW (cc := cc) (maxL := maxL) (ret := none) hy rfl ?_
  intro p e s m args below meth c s₁ B hml hv
  obtain ⟨rfl, hsz, hP, hK, hD0, hN⟩ := hv
  subst hsz
  have hts := atoms_spec (ws := Cond.code y cc maxL none :: jtb) B.pre
  have hl := lv_entry vs (n := maxL) hn
  rw [lg_entry_eq]
  rw [hlv] at hl
  exact body (p, l, e, rm, s, m, vs.toArray, below, meth, c, D, va_A wc s.heap.size) ⟨B.exec, B.bytes, hml, findClass_of_methodNamed B.named, fun w h => hts w (List.mem_cons_of_mem _ h), hK, B.returns, B.notSynchronized, fun q h => Or.inr h, rfl, hN⟩ (by have := (name_of_methodNamed B.named B.method).1; rw [hnm] at this; exact this) o ho s.heap [] _ hP hD0.self va_S.rf hl
/-- behind a constructor: its own cell anew, what it made at the end -/
theorem j_afterC {D : va_G} {A : Nat → Prop} {ws wc wa wb : va_W} {H H1 : Heap} {ps : List Nat} (hP : va_P D vwCl ws H) (hD : va_D A ws) (hC : ps.map (fun i => ws[i]?) = wc.map some) (hF : ∀ q, va_A wc H.size q → A q) (hk : ∀ q : Nat, q < H.size → ¬ va_A wc H.size q → H1[q]? = H[q]?) (hP1 : va_P D vwCl (wa ++ wb) H1) (hD1 : va_D (va_A wc H.size) (wa ++ wb)) (hlen : ps.length = wa.length) (hadr : wa.map (·.1) = wc.map (·.1)) (hfst : (jput ws ps wa).map (·.1) = ws.map (·.1)) : va_P D vwCl (jput ws ps wa ++ wb) H1 ∧ va_D A (jput ws ps wa ++ wb) := by
  have hPa : va_P D vwCl wa H1 := fun k q h => hP1 k q (by rw [List.getElem?_append_left (List.getElem?_eq_some_iff.mp h).1]; exact h)
  have hPb : va_P D vwCl wb H1 := fun k q h => hP1 (wa.length + k) q (by rw [List.getElem?_append_right (by omega), Nat.add_sub_cancel_left]; exact h)
  obtain ⟨p1, p2⟩ := j_after hP hD hC hk hPa hlen rfl hfst
  refine ⟨p1.app hPb, p2.app ⟨fun i j p q hi hj e => ?_, fun k q h => ?_⟩ (fun i j p q hi hj e => ?_)⟩
  · have := hD1.1 (wa.length + i) (wa.length + j) p q (by rw [List.getElem?_append_right (by omega), Nat.add_sub_cancel_left]; exact hi) (by rw [List.getElem?_append_right (by omega), Nat.add_sub_cancel_left]; exact hj) e
    omega
  · exact hF _ (hD1.2 (wa.length + k) q (by rw [List.getElem?_append_right (by omega), Nat.add_sub_cancel_left]; exact h))
  · -- a cell that was made is none of the old ones
    have hb := hD1.2 (wa.length + j) q (by rw [List.getElem?_append_right (by omega), Nat.add_sub_cancel_left]; exact hj)
    have h1 : ((jput ws ps wa).map (·.1))[i]? = some p.1 := by rw [List.getElem?_map, hi]; rfl
    rw [hfst, List.getElem?_map] at h1
    cases hw : ws[i]? with
    | none => rw [hw] at h1; cases h1
    | some z =>
      rw [hw] at h1
      have hz : z.1 = p.1 := Option.some.inj h1
      rcases hb with ⟨k2, e2, h3⟩ | h3
      · have h4 : (wc.map (·.1))[k2]? = some q.1 := by rw [List.getElem?_map, h3]; rfl
        rw [← hadr, List.getElem?_map] at h4
        cases hwa : wa[k2]? with
        | none => rw [hwa] at h4; cases h4
        | some y =>
          rw [hwa] at h4
          have hy : y.1 = q.1 := Option.some.inj h4
          have hl2 := (List.getElem?_eq_some_iff.mp hwa).1
          have := hD1.1 k2 (wa.length + j) y q (by rw [List.getElem?_append_left hl2]; exact hwa) (by rw [List.getElem?_append_right (by omega), Nat.add_sub_cancel_left]; exact hj) hy
          omega
      · have hl := (hP i z hw).lt
        rw [hz, e] at hl
        omega
def jmi (own : String) (idx : Nat) (y : MethodName) (bytes : ByteArray) (maxL n : Nat) : Prop := jml own idx y bytes maxL none n ∧ y.name = "<init>" ∧ Cond.instanceMethod y ∈ jtb
def jmj (own : String) (idx : Nat) (y : MethodName) (bytes : ByteArray) (maxL n : Nat) (host : String) : Prop := (own, idx, y, host) ∈ jnests ∧ Cond.code y bytes maxL none ∈ jtb ∧ Cond.initialized y.cls ∈ jtb ∧ (y.cls ≠ "java/lang/invoke/MethodHandle" ∧ y.cls ≠ "java/lang/invoke/VarHandle" ∧ (parseMethodDescriptor y.desc).map (fun d => d.parameters.length) = some n) ∧ y.name = "<init>" ∧ Cond.instanceMethod y ∈ jtb
section JCC
variable {ρ S : Type} {X : jC} {cc bytes : ByteArray} {nL maxL np idx b k n mc ms : Nat} {own : String} {ret : Option FieldType} {tc : jTC} {rm rmc : Room} {Q : ρ → State → Prop} {ws wc : va_W} {pc pc' : Nat} {lv : List (Nat × Value)} {st st0 As : List Value} {y : MethodName} {O1 : Option S} {F : S → Option ρ} {wn : S → va_W → Prop}
theorem j_callC (C : jx X cc nL own ret tc rm) (hd : jd cc pc (.invokespecial idx) 3 pc') (hm : jmi own idx y bytes maxL np) (hM : ctC (j_l X) (j_D X) tc y (Cond.code y bytes maxL none :: jtb) rmc (.ref b :: As) wc mc ms O1 wn) (hr : rmc.cells = mc ∧ rmc.slots = ms ∧ rmc.frames + 1 ≤ rm.frames ∧ 8 + (maxL + 11) + rmc.locals ≤ rm.locals) (hn : As.length = np) (ps : List Nat) (hC : ps.map (fun i => ws[i]?) = wc.map some) (hnd : va_nd ps = true) (hst0 : st0 = As.reverse ++ .ref b :: st) (hst : (st.map fun v => v.category).sum ≤ 8) (hf : k + mc ≤ rm.cells ∧ n + ms ≤ rm.slots) (h : ∀ o w, wn o w → ∃ wa wb, w = wa ++ wb ∧ ps.length = wa.length ∧ wa.map (·.1) = wc.map (·.1) ∧ (jput ws ps wa).map (·.1) = ws.map (·.1) ∧ jo X nL (k + mc, n + ms) Q (F o) (jput ws ps wa ++ wb) pc' lv st) : jo X nL (k, n) Q (O1.bind F) ws pc lv st0 := by
  intro o ho H locs ls hP hD hS hl
  obtain ⟨h1, rfl⟩ := hd
  obtain ⟨o1, ho1, ho2⟩ := Option.bind_eq_some_iff.mp ho
  obtain ⟨hx, hbb, hml, hown, hts, hK, -, -, hAA, hR, hN⟩ := C
  obtain ⟨⟨m1, m2, m3, m4⟩, m5, m6⟩ := hm
  obtain ⟨r1, r2, r3, r4⟩ := hr
  have hcb := callB_of (R := j_R X) (rm := rmc) np hts (j_good m2) rfl r1 r2 (hts _ m3) (hts _ m1) m4 (by rw [hR]; exact ⟨r3, r4⟩)
  have hrun := va_runI (locs := locs) (cells := k) (slots := n) (e := X.2.2.1) (below := j_b X) (meth := j_me X) (b := b) (As := As) (rest := st) (g := F0 (j_m X) pc ls st0) ⟨hx, hbb, hml, hown, hts⟩ (hM H.size o1 ho1) ⟨hcb, m5, hts _ m6⟩ ⟨j_blind, fun U hU hW => j_pre hK hN hP hD hC hnd hU hW⟩ rfl hn hl.1 hst0 (lv_room hst) h1 (by rw [hR]; exact hf)
  have hF := va_free hD hS hAA ps hC
  refine va_callv hrun hS (fun q _ h => hF q h) hF (fun w t H1 locs1 ht hvm hw hB hz1 hk1 hS1 => ?_)
  obtain ⟨hB1, hB2⟩ := hB
  rw [ht] at hB1
  obtain ⟨wa, wb, rfl, l1, l2, l3, hj⟩ := h o1 w hw
  obtain ⟨hP2, hD2⟩ := j_afterC hP hD hC hF hk1 hB1 hB2 l1 l2 l3
  exact hj o ho2 H1 locs1 ls hP2 hD2 hS1 hl
theorem j_callCN {host : String} (C : jx X cc nL own ret tc rm) (hd : jd cc pc (.invokespecial idx) 3 pc') (hm : jmj own idx y bytes maxL np host) (hM : ctC (j_l X) (j_D X) tc y (Cond.code y bytes maxL none :: jtb) rmc (.ref b :: As) wc mc ms O1 wn) (hr : rmc.cells = mc ∧ rmc.slots = ms ∧ rmc.frames + 1 ≤ rm.frames ∧ 8 + (maxL + 11) + rmc.locals ≤ rm.locals) (hn : As.length = np) (ps : List Nat) (hC : ps.map (fun i => ws[i]?) = wc.map some) (hnd : va_nd ps = true) (hst0 : st0 = As.reverse ++ .ref b :: st) (hst : (st.map fun v => v.category).sum ≤ 8) (hf : k + mc ≤ rm.cells ∧ n + ms ≤ rm.slots) (h : ∀ o w, wn o w → ∃ wa wb, w = wa ++ wb ∧ ps.length = wa.length ∧ wa.map (·.1) = wc.map (·.1) ∧ (jput ws ps wa).map (·.1) = ws.map (·.1) ∧ jo X nL (k + mc, n + ms) Q (F o) (jput ws ps wa ++ wb) pc' lv st) : jo X nL (k, n) Q (O1.bind F) ws pc lv st0 := by
  intro o ho H locs ls hP hD hS hl
  obtain ⟨h1, rfl⟩ := hd
  obtain ⟨o1, ho1, ho2⟩ := Option.bind_eq_some_iff.mp ho
  obtain ⟨hx, hbb, hml, hown, hts, hK, -, -, hAA, hR, hN⟩ := C
  obtain ⟨m1, m2, m3, m4, m5, m6⟩ := hm
  obtain ⟨r1, r2, r3, r4⟩ := hr
  have hcb := va_cnB (R := j_R X) (rm := rmc) np hts (j_good m2) rfl r1 r2 (hN.1 _ m1) (hts _ m3) m4 (by rw [hR]; exact ⟨r3, r4⟩)
  have hrun := va_runIN (locs := locs) (cells := k) (slots := n) (e := X.2.2.1) (below := j_b X) (meth := j_me X) (b := b) (As := As) (rest := st) (g := F0 (j_m X) pc ls st0) ⟨hx, hbb, hml, hown, hts⟩ (hM H.size o1 ho1) ⟨hcb, m5, hts _ m6⟩ ⟨j_blind, fun U hU hW => j_pre hK hN hP hD hC hnd hU hW⟩ rfl hn hl.1 hst0 (lv_room hst) h1 (by rw [hR]; exact hf)
  have hF := va_free hD hS hAA ps hC
  refine va_callv hrun hS (fun q _ h => hF q h) hF (fun w t H1 locs1 ht hvm hw hB hz1 hk1 hS1 => ?_)
  obtain ⟨hB1, hB2⟩ := hB
  rw [ht] at hB1
  obtain ⟨wa, wb, rfl, l1, l2, l3, hj⟩ := h o1 w hw
  obtain ⟨hP2, hD2⟩ := j_afterC hP hD hC hF hk1 hB1 hB2 l1 l2 l3
  exact hj o ho2 H1 locs1 ls hP2 hD2 hS1 hl
end JCC
section JK2
variable {ρ : Type} {X : jC} {cc : ByteArray} {nL : Nat} {own : String} {ret : Option FieldType} {tc : jTC} {rm : Room} {kn : Nat × Nat} {Q : ρ → State → Prop} {O : Option ρ} {ws : va_W} {pc pc' tgt : Nat} {lv : List (Nat × Value)} {st : List Value}
theorem j_icmp_geF (C : jx X cc nL own ret tc rm) {x y : Int32} {off : Int} (hd : jdb cc pc (.if_icmp .ge off) off tgt pc') (hc : ¬ y ≤ x) (h : jo X nL kn Q O ws pc' lv st) : jo X nL kn Q O ws pc lv (.int y :: .int x :: st) := by
  intro o ho H locs ls hP hD hS hl
  obtain ⟨h1, h2, rfl⟩ := hd
  exact lv_icmp_ge C.1 C.2.1 h1 h2 (fun hc' => absurd hc' hc) (fun _ => h o ho H locs ls hP hD hS hl)
theorem j_icmp_geT (C : jx X cc nL own ret tc rm) {x y : Int32} {off : Int} (hd : jdb cc pc (.if_icmp .ge off) off tgt pc') (hc : y ≤ x) (h : jo X nL kn Q O ws tgt lv st) : jo X nL kn Q O ws pc lv (.int y :: .int x :: st) := by
  intro o ho H locs ls hP hD hS hl
  obtain ⟨h1, h2, rfl⟩ := hd
  exact lv_icmp_ge C.1 C.2.1 h1 h2 (fun _ => h o ho H locs ls hP hD hS hl) (fun hc' => absurd hc hc')
theorem j_iastK (C : jx X cc nL own ret tc rm) {a n j : Nat} {f : Nat → Int32} {i x : Int32} {ws' : va_W} (hd : jd cc pc .iastore 1 pc') (q0 : Nat) (he : ws[q0]? = some (a, .inl (tc.1, n, .inl f))) (hi : i = nI j) (hj : j < n) (hn : n < 100000) (hw : ws.set q0 (a, .inl (tc.1, n, .inl (upd f j x))) = ws') (h : jo X nL kn Q O ws' pc' lv st) : jo X nL kn Q O ws pc lv (.int x :: .int i :: .ref a :: st) := by
  intro o ho H locs ls hP hD hS hl
  obtain ⟨h1, rfl⟩ := hd
  subst hi
  refine va_iast C.1 C.2.1 C.2.2.2.2.2.1 hP hD hS q0 0 he rfl (vp_in_nI hj (by omega)) h1 (fun H1 locs1 hP1 hD1 hS1 => ?_)
  rw [nI_clamp (by omega), hw] at hP1 hD1
  exact h o ho H1 locs1 ls hP1 hD1 hS1 hl
theorem j_mmaxK (C : jx X cc nL own ret tc rm) {idx : Nat} {x y v : Int32} (hd : jd cc pc (.invokestatic idx) 3 pc') (hl0 : Cond.methodLink own idx Lib.Math.max.name ∈ jtb) (hkn : kn.1 ≤ rm.cells ∧ kn.2 ≤ rm.slots) (hr : 1 ≤ rm.frames ∧ 21 ≤ rm.locals) (hst : (st.map fun v => v.category).sum ≤ 8) (hv : (if x < y then y else x) = v) (h : jo X nL kn Q O ws pc' lv (.int v :: st)) : jo X nL kn Q O ws pc lv (.int y :: .int x :: st) := by
  intro o ho H locs ls hP hD hS hl
  obtain ⟨h1, rfl⟩ := hd
  have hR : j_R X = rm := C.2.2.2.2.2.2.2.2.2.1
  subst hv
  exact va_mmax C.1 C.2.1 (by rw [C.2.2.1]; exact hl.1.symm) C.2.2.2.1 (C.2.2.2.2.1 _ hl0) (C.2.2.2.2.1 _ lw_maxS) (C.2.2.2.2.1 _ lw_mathI) (C.2.2.2.2.1 _ lw_maxC) (by rw [hR]; exact hr.1) (by rw [hR]; omega) (by rw [hR]; exact hkn.1) (by rw [hR]; exact hkn.2) h1 (h o ho H locs ls hP hD hS hl)
end JK2
section JV2
variable {ρ S : Type} {X : jC} {cc bytes : ByteArray} {nL maxL np idx ci b k n : Nat} {own : String} {ret retc : Option FieldType} {tc : jTC} {rm rmc : Room} {Q : ρ → State → Prop} {ws wc : va_W} {pc pc' : Nat} {lv : List (Nat × Value)} {st st0 As : List Value} {y : MethodName} {fs : List Value} {O1 : Option S} {F : S → Option ρ} {wn : S → va_W}
theorem j_callVVk (C : jx X cc nL own ret tc rm) (hd : jd cc pc (.invokevirtual idx) 3 pc') (hm : jmv own idx y bytes maxL retc np ci) (hM : ctV (j_l X) (j_D X) tc y (Cond.code y bytes maxL retc :: jtb) rmc (.ref b :: As) wc O1 wn) (hr : rmc.cells = 0 ∧ rmc.slots = 0 ∧ rmc.frames + 1 ≤ rm.frames ∧ 8 + (maxL + 11) + rmc.locals ≤ rm.locals) (hn : As.length = np) (qr : Nat) (hb : ws[qr]? = some (b, .inr (ci, fs))) (ps : List Nat) (hC : ps.map (fun i => ws[i]?) = wc.map some) (hnd : va_nd ps = true) (hst0 : st0 = As.reverse ++ .ref b :: st) (hst : (st.map fun v => v.category).sum ≤ 8) (hkn : k ≤ rm.cells ∧ n ≤ rm.slots) (wf : S → va_W) (sel : List (Bool × Nat)) (hws : ∀ u, jfit ws sel (wn u) (wf u)) (hcv : jcv sel ps = true) (h : ∀ o, jo X nL (k, n) Q (F o) (wf o) pc' lv st) : jo X nL (k, n) Q (O1.bind F) ws pc lv st0 := by
  intro o ho H locs ls hP hD hS hl
  obtain ⟨h1, rfl⟩ := hd
  obtain ⟨o1, ho1, ho2⟩ := Option.bind_eq_some_iff.mp ho
  obtain ⟨hx, hbb, hml, hown, hts, hK, -, -, hAA, hR, hN⟩ := C
  obtain ⟨⟨m1, m2, m3, m4⟩, m5, m6, T, N, m7⟩ := hm
  obtain ⟨r1, r2, r3, r4⟩ := hr
  have hcb := callB_of (R := j_R X) (rm := rmc) np hts (j_good m2) rfl r1 r2 (hts _ m3) (hts _ m1) m4 (by rw [hR]; exact ⟨r3, r4⟩)
  have hrun := va_runV (locs := locs) (cells := k) (slots := n) (e := X.2.2.1) (below := j_b X) (meth := j_me X) (C := y.cls) (b := b) (As := As) (rest := st) (g := F0 (j_m X) pc ls st0) ⟨hx, hbb, hml, hown, hts⟩ (hM H.size o1 ho1) ⟨hcb, hts _ m5, hts _ m6⟩ ⟨j_blind, va_recv hK hP (ci := ci) (q0 := qr) m7 hb, fun U hU hW => j_pre hK hN hP hD hC hnd hU hW⟩ rfl hn hl.1 hst0 (lv_room hst) h1 (by rw [hR]; exact hkn)
  have hF := va_free hD hS hAA ps hC
  refine va_callv hrun hS (fun q _ h => hF q h) hF (fun u t H1 locs1 ht hvm hw hB hz1 hk1 hS1 => ?_)
  subst hw
  obtain ⟨hB1, hB2⟩ := hB
  rw [ht] at hB1
  obtain ⟨hP2, hD2⟩ := j_after2 hP hD hC hF hk1 hB1 hB2 (hws u) hcv
  exact h u o ho2 H1 locs1 ls hP2 hD2 hS1 hl
end JV2
