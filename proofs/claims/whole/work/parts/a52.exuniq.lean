/-! THE SAME EXAMPLES on both sides -/
theorem pwS_congr {v w : vW} (h : ∀ s, s < 8 → v s = w s) {s : Nat} (hs : okS s) : pwS v s = pwS w s := by
  have := okS_lt hs
  unfold pwS
  by_cases h10 : s < 10
  · rw [if_pos h10, if_pos h10]
  · rw [if_neg h10, if_neg h10]; exact h _ (by omega)
theorem clv_congr {v w : vW} (h : ∀ s, s < 8 → v s = w s) : ∀ (r : List Nat), (∀ s ∈ r, okS s) → clv v r = clv w r
  | [], _ => rfl
  | s :: r, hr => by
    simp only [clv]
    rw [pwS_congr h (hr s List.mem_cons_self), clv_congr h r (fun x hx => hr x (List.mem_cons_of_mem _ hx))]
theorem bev_congr {v w : vW} (h : ∀ s, s < 8 → v s = w s) {β β' : Nat → wW} (hb : ∀ s, okS s → β s = β' s) {r : List Nat} (hr : ∀ s ∈ r, okS s) {i : Nat} (hi : i < r.length) : bev v r i β = bev w r i β' := by
  unfold bev
  rw [hb _ (hr _ (sy_mem hi)), clv_congr h _ (fun s hs => hr s (List.mem_of_mem_drop hs))]
theorem stl_congr {E : Int32} {v w : vW} (h : ∀ s, s < 8 → v s = w s) {β β' : Nat → wW} (hb : ∀ s, okS s → β s = β' s) : ∀ (r : List Nat), (∀ s ∈ r, okS s) → stl E v β r = stl E w β' r
  | [], _ => rfl
  | s :: r, hr => by
    simp only [stl]
    rw [hb s (hr s List.mem_cons_self), clv_congr h r (fun x hx => hr x (List.mem_cons_of_mem _ hx)), stl_congr h hb r (fun x hx => hr x (List.mem_cons_of_mem _ hx))]
theorem bS_congr {tk : Nat} {v w : vW} (h : ∀ s, s < 8 → v s = w s) {s : Nat} (hs : okS s) : bS tk v s = bS tk w s := by
  have := okS_lt hs
  unfold bS
  by_cases h10 : s < 10
  · rw [if_pos h10, if_pos h10]
  · rw [if_neg h10, if_neg h10]; exact h _ (by omega)
theorem okS_drop {q : gP} (hq : okP q) {a : Nat} : ∀ s ∈ q.2.drop a, okS s := fun s hs => hq.2.2 s (List.mem_of_mem_drop hs)
theorem okS_take {q : gP} (hq : okP q) {a : Nat} : ∀ s ∈ q.2.take a, okS s := fun s hs => hq.2.2 s (List.mem_of_mem_take hs)
theorem RB_congr {G : List gP} (hG : okG G) {E : Int32} {tk : Nat} {pv pw : vW} (h : ∀ s, s < 8 → pv s = pw s) {s : Nat} {ev : vW → wW} (hr : RB G E pv tk s ev) : RB G E pw tk s ev := by
  obtain ⟨p, i, hp, hi, hv, h1, h2⟩ := hr
  refine ⟨p, i, hp, hi, hv, h1, ?_⟩
  rw [h2]
  funext v
  exact bev_congr h (fun _ _ => rfl) (okG_gp hG hp).2.2 hi
theorem BegOK_uniq {G : List gP} (hG : okG G) {E : Int32} {tk : Nat} {pv pw bv bw : vW} (h : ∀ s, s < 8 → pv s = pw s) (h1 : BegOK G E pv tk bv) (h2 : BegOK G E pw tk bw) : ∀ s, s < 8 → bv s = bw s :=
  least_uniq w0_9 h1.1 h1.2 (fun s ev hr => h2.1 s ev (RB_congr hG h hr)) (fun w hw => h2.2 w (fun s ev hr => hw s ev (RB_congr hG (fun s hs => (h s hs).symm) hr)))
theorem evT_congr {pv pw : vW} (h : ∀ s, s < 8 → pv s = pw s) {q : gP} (hq : okP q) (i : Nat) : evT pv q i = evT pw q i := by
  funext v
  unfold evT
  rw [clv_congr h _ (okS_take hq)]
theorem evM_congr {pv pw : vW} (h : ∀ s, s < 8 → pv s = pw s) {q : gP} (hq : okP q) (i : Nat) : evM pv q i = evM pw q i := by
  funext v
  unfold evM
  rw [clv_congr h _ (okS_take hq), clv_congr h _ (okS_drop hq)]
theorem baseM_congr {E : Int32} {pv pw : vW} (h : ∀ s, s < 8 → pv s = pw s) {β β' : Nat → wW} (hb : ∀ s, okS s → β s = β' s) {q : gP} (hq : okP q) : baseM E pv β q = baseM E pw β' q := by
  unfold baseM
  rw [stl_congr h hb _ hq.2.2]
theorem RK_congr {G : List gP} (hG : okG G) {E : Int32} {pv pw b : vW} (h : ∀ s, s < 8 → pv s = pw s) {β β' : Nat → wW} (hb : ∀ s, okS s → β s = β' s) {s : Nat} {ev : vW → wW} (hr : RK G E pv β b s ev) : RK G E pw β' b s ev := by
  rcases hr with hr | ⟨p, i, hp, hi, h10, hr⟩
  · exact Or.inl hr
  · have hq := okG_gp hG hp
    refine Or.inr ⟨p, i, hp, hi, h10, ?_⟩
    rcases hr with ⟨h1, h2⟩ | ⟨j, hj, hv, h1, h2⟩ | ⟨hv, h1, h2⟩
    · exact Or.inl ⟨h1, by rw [h2, evM_congr h hq]⟩
    · refine Or.inr (Or.inl ⟨j, hj, hv, h1, ?_⟩)
      rw [h2, evT_congr h hq]
      funext v
      rw [bev_congr h hb (okS_drop hq) hj]
    · exact Or.inr (Or.inr ⟨hv, h1, by rw [h2, evT_congr h hq]⟩)
theorem MarkOK_uniq {G : List gP} (hG : okG G) {E : Int32} {tk : Nat} {pv pw bv bw v w : vW} {q : gP} (hq : okP q) (h : ∀ s, s < 8 → pv s = pw s) (hb : ∀ s, s < 8 → bv s = bw s) (h1 : MarkOK G E pv (bS tk bv) q v) (h2 : MarkOK G E pw (bS tk bw) q w) : ∀ s, s < 16 → v s = w s := by
  have hbb : ∀ s, okS s → bS tk bv s = bS tk bw s := fun s hs => bS_congr hb hs
  have hbase := baseM_congr (E := E) h hbb hq
  unfold MarkOK at h1 h2
  rw [← hbase] at h2
  exact least_uniq w0_9 h1.1 h1.2 (fun s ev hr => h2.1 s ev (RK_congr hG h hbb hr)) (fun w hw => h2.2 w (fun s ev hr => hw s ev (RK_congr hG (fun s hs => (h s hs).symm) (fun s hs => (hbb s hs).symm) hr)))
