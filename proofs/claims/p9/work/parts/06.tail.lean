/-! worlds with a tail: cells that are told, then a list that is only carried along -/
theorem vaP_mem {D : va_G} {ws : va_W} {H : Heap} : va_P D vwCl ws H ↔ ∀ q ∈ ws, va_at D vwCl q H := by
  constructor
  · intro h q hq
    obtain ⟨k, hk⟩ := List.mem_iff_getElem?.mp hq
    exact h k q hk
  · intro h k q hk
    exact h q (List.mem_of_getElem? hk)
theorem vaD_iff {A : Nat → Prop} {ws : va_W} : va_D A ws ↔ ws.Pairwise (fun p q => p.1 ≠ q.1) ∧ ∀ q ∈ ws, A q.1 := by
  constructor
  · intro h
    refine ⟨List.pairwise_iff_getElem.mpr (fun i j hi hj hij e => ?_), fun q hq => ?_⟩
    · have := h.1 i j _ _ (List.getElem?_eq_getElem hi) (List.getElem?_eq_getElem hj) e
      omega
    · obtain ⟨k, hk⟩ := List.mem_iff_getElem?.mp hq
      exact h.2 k q hk
  · intro h
    refine ⟨fun i j p q hp hq e => ?_, fun k q hk => h.2 q (List.mem_of_getElem? hk)⟩
    obtain ⟨hi, rfl⟩ := List.getElem?_eq_some_iff.mp hp
    obtain ⟨hj, rfl⟩ := List.getElem?_eq_some_iff.mp hq
    have hw := List.pairwise_iff_getElem.mp h.1
    rcases Nat.lt_trichotomy i j with q | q | q
    · exact absurd e (hw i j hi hj q)
    · exact q
    · exact absurd e.symm (hw j i hj hi q)
def PD (D : va_G) (A : Nat → Prop) (ws : va_W) (H : Heap) : Prop := va_P D vwCl ws H ∧ va_D A ws
theorem PD.perm {D : va_G} {A : Nat → Prop} {ws ws' : va_W} {H : Heap} (h : PD D A ws H) (hp : ws.Perm ws') : PD D A ws' H :=
  ⟨vaP_mem.mpr (fun q hq => vaP_mem.mp h.1 q (hp.mem_iff.mpr hq)), vaD_iff.mpr ⟨hp.pairwise (vaD_iff.mp h.2).1 (fun e => e.symm), fun q hq => (vaD_iff.mp h.2).2 q (hp.mem_iff.mpr hq)⟩⟩
theorem PD.left {D : va_G} {A : Nat → Prop} {a b : va_W} {H : Heap} (h : PD D A (a ++ b) H) : PD D A a H :=
  ⟨vaP_mem.mpr (fun q hq => vaP_mem.mp h.1 q (List.mem_append_left _ hq)), vaD_iff.mpr ⟨(List.pairwise_append.mp (vaD_iff.mp h.2).1).1, fun q hq => (vaD_iff.mp h.2).2 q (List.mem_append_left _ hq)⟩⟩
/-- a call: the callee's cells wc come back as w1, the rest stays -/
theorem PD.join {D : va_G} {A0 : Nat → Prop} {wc wr w1 : va_W} {H H1 : Heap} (h : PD D A0 (wc ++ wr) H) (hk : ∀ q : Nat, q < H.size → ¬ va_A wc H.size q → H1[q]? = H[q]?) (hF : ∀ q, va_A wc H.size q → A0 q) (hP1 : va_P D vwCl w1 H1) (hD1 : va_D (va_A wc H.size) w1) : PD D A0 (wr ++ w1) H1 := by
  have hp := List.pairwise_append.mp (vaD_iff.mp h.2).1
  have apart : ∀ q ∈ wr, q.1 < H.size ∧ ¬ va_A wc H.size q.1 := by
    intro q hq
    have hl := (vaP_mem.mp h.1 q (List.mem_append_right _ hq)).lt
    refine ⟨hl, fun z => ?_⟩
    rcases z with ⟨k, e, hk2⟩ | z
    · exact hp.2.2 _ (List.mem_of_getElem? hk2) q hq rfl
    · omega
  refine ⟨vaP_mem.mpr (fun q hq => ?_), vaD_iff.mpr ⟨List.pairwise_append.mpr ⟨hp.2.1, (vaD_iff.mp hD1).1, fun a ha b hb e => ?_⟩, fun q hq => ?_⟩⟩
  · rcases List.mem_append.mp hq with q1 | q1
    · exact (vaP_mem.mp h.1 q (List.mem_append_right _ q1)).kept (hk q.1 (apart q q1).1 (apart q q1).2)
    · exact vaP_mem.mp hP1 q q1
  · exact (apart a ha).2 (by rw [e]; exact (vaD_iff.mp hD1).2 b hb)
  · rcases List.mem_append.mp hq with q1 | q1
    · exact (vaD_iff.mp h.2).2 q (List.mem_append_right _ q1)
    · exact hF q.1 ((vaD_iff.mp hD1).2 q q1)
/-- cells by their places, the rest by theirs -/
theorem pick_perm {E wc wr : va_W} (isC isR : List Nat) (hp : (isC ++ isR).Perm (List.range E.length)) (hC : isC.map (fun i => E[i]?) = wc.map some) (hR : isR.map (fun i => E[i]?) = wr.map some) : E.Perm (wc ++ wr) := by
  have h1 : ((isC ++ isR).map (fun i => E[i]?)).Perm ((List.range E.length).map (fun i => E[i]?)) := hp.map _
  rw [List.map_append, hC, hR, ← List.map_append] at h1
  have h2 : (List.range E.length).map (fun i => E[i]?) = E.map some := by
    apply List.ext_getElem?
    intro n
    rw [List.getElem?_map, List.getElem?_map]
    by_cases hn : n < E.length
    · rw [List.getElem?_range hn]
      simp [List.getElem?_eq_getElem hn]
    · rw [List.getElem?_eq_none (by simpa using hn), List.getElem?_eq_none (by omega)]
      rfl
  rw [h2] at h1
  have h3 := h1.symm.filterMap id
  simpa using h3
