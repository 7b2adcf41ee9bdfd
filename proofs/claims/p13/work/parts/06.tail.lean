/-! worlds with a tail: cells that are told, then a list that is only carried along -/
theorem vaP_mem {D : va_G} {ws : va_W} {H : Heap} : va_P D vwCl ws H ↔ ∀ q ∈ ws, va_at D vwCl q H := by
  constructor
  · intro h q hq
    obtain ⟨k, hk⟩ := List.mem_iff_getElem?.mp hq
    exact h k q hk
  · intro h k q hk
    exact h q (List.mem_of_getElem? hk)
theorem vaD_iff {A : Nat → Prop} {ws : va_W} : va_D A ws ↔ ws.Pairwise (fun p q => p.1 ≠ q.1) ∧ ∀ q ∈ ws, A q.1 := by
  constructor
  · intro h
    refine ⟨List.pairwise_iff_getElem.mpr (fun i j hi hj hij e => ?_), fun q hq => ?_⟩
    · have := h.1 i j _ _ (List.getElem?_eq_getElem hi) (List.getElem?_eq_getElem hj) e
      omega
    · obtain ⟨k, hk⟩ := List.mem_iff_getElem?.mp hq
      exact h.2 k q hk
  · intro h
    refine ⟨fun i j p q hp hq e => ?_, fun k q hk => h.2 q (List.mem_of_getElem? hk)⟩
    obtain ⟨hi, rfl⟩ := List.getElem?_eq_some_iff.mp hp
    obtain ⟨hj, rfl⟩ := List.getElem?_eq_some_iff.mp hq
    have hw := List.pairwise_iff_getElem.mp h.1
    rcases Nat.lt_trichotomy i j with q | q | q
    · exact absurd e (hw i j hi hj q)
    · exact q
    · exact absurd e.symm (hw j i hj hi q)
def PD (D : va_G) (A : Nat → Prop) (ws : va_W) (H : Heap) : Prop := va_P D vwCl ws H ∧ va_D A ws
theorem PD.perm {D : va_G} {A : Nat → Prop} {ws ws' : va_W} {H : Heap} (h : PD D A ws H) (hp : ws.Perm ws') : PD D A ws' H :=
  ⟨vaP_mem.mpr (fun q hq => vaP_mem.mp h.1 q (hp.mem_iff.mpr hq)), vaD_iff.mpr ⟨hp.pairwise (vaD_iff.mp h.2).1 (fun e => e.symm), fun q hq => (vaD_iff.mp h.2).2 q (hp.mem_iff.mpr hq)⟩⟩
theorem PD.left {D : va_G} {A : Nat → Prop} {a b : va_W} {H : Heap} (h : PD D A (a ++ b) H) : PD D A a H :=
  ⟨vaP_mem.mpr (fun q hq => vaP_mem.mp h.1 q (List.mem_append_left _ hq)), vaD_iff.mpr ⟨(List.pairwise_append.mp (vaD_iff.mp h.2).1).1, fun q hq => (vaD_iff.mp h.2).2 q (List.mem_append_left _ hq)⟩⟩
/-- a call: the callee's cells wc come back as w1, the rest stays -/
theorem PD.join {D : va_G} {A0 : Nat → Prop} {wc wr w1 : va_W} {H H1 : Heap} (h : PD D A0 (wc ++ wr) H) (hk : ∀ q : Nat, q < H.size → ¬ va_A wc H.size q → H1[q]? = H[q]?) (hF : ∀ q, va_A wc H.size q → A0 q) (hP1 : va_P D vwCl w1 H1) (hD1 : va_D (va_A wc H.size) w1) : PD D A0 (wr ++ w1) H1 := by
  have hp := List.pairwise_append.mp (vaD_iff.mp h.2).1
  have apart : ∀ q ∈ wr, q.1 < H.size ∧ ¬ va_A wc H.size q.1 := by
    intro q hq
    have hl := (vaP_mem.mp h.1 q (List.mem_append_right _ hq)).lt
    refine ⟨hl, fun z => ?_⟩
    rcases z with ⟨k, e, hk2⟩ | z
    · exact hp.2.2 _ (List.mem_of_getElem? hk2) q hq rfl
    · omega
  refine ⟨vaP_mem.mpr (fun q hq => ?_), vaD_iff.mpr ⟨List.pairwise_append.mpr ⟨hp.2.1, (vaD_iff.mp hD1).1, fun a ha b hb e => ?_⟩, fun q hq => ?_⟩⟩
  · rcases List.mem_append.mp hq with q1 | q1
    · exact (vaP_mem.mp h.1 q (List.mem_append_right _ q1)).kept (hk q.1 (apart q q1).1 (apart q q1).2)
    · exact vaP_mem.mp hP1 q q1
  · exact (apart a ha).2 (by rw [e]; exact (vaD_iff.mp hD1).2 b hb)
  · rcases List.mem_append.mp hq with q1 | q1
    · exact (vaD_iff.mp h.2).2 q (List.mem_append_right _ q1)
    · exact hF q.1 ((vaD_iff.mp hD1).2 q q1)
/-- cells by their places, the rest by theirs -/
theorem pick_perm {E wc wr : va_W} (n : Nat) (hlen : E.length = n) (isC isR : List Nat) (hp0 : (isC ++ isR).Perm (List.range n)) (hC : isC.map (fun i => E[i]?) = wc.map some) (hR : isR.map (fun i => E[i]?) = wr.map some) : E.Perm (wc ++ wr) := by
  have hp : (isC ++ isR).Perm (List.range E.length) := by rw [hlen]; exact hp0
  have h1 : ((isC ++ isR).map (fun i => E[i]?)).Perm ((List.range E.length).map (fun i => E[i]?)) := hp.map _
  rw [List.map_append, hC, hR, ← List.map_append] at h1
  have h2 : (List.range E.length).map (fun i => E[i]?) = E.map some := by
    apply List.ext_getElem?
    intro n
    rw [List.getElem?_map, List.getElem?_map]
    by_cases hn : n < E.length
    · rw [List.getElem?_range hn]
      simp [List.getElem?_eq_getElem hn]
    · rw [List.getElem?_eq_none (by simpa using hn), List.getElem?_eq_none (by omega)]
      rfl
  rw [h2] at h1
  have h3 := h1.symm.filterMap id
  simpa using h3
theorem permA {E T wc wr : va_W} (h : E.Perm (wc ++ wr)) : (E ++ T).Perm (wc ++ (wr ++ T)) := by
  rw [← List.append_assoc]
  exact h.append_right T
theorem permB {E T wc wr : va_W} (h : E.Perm (wc ++ wr)) : (E ++ T).Perm ((wc ++ T) ++ wr) := by
  refine (permA h).trans ?_
  rw [List.append_assoc]
  exact List.perm_append_comm.append_left wc
theorem permA' {T a wr : va_W} : ((wr ++ T) ++ a).Perm ((wr ++ a) ++ T) := by
  rw [List.append_assoc, List.append_assoc]
  exact List.perm_append_comm.append_left wr
theorem permB' {T a wr : va_W} : (wr ++ (a ++ T)).Perm ((wr ++ a) ++ T) := by
  rw [List.append_assoc]
theorem sub_T {D : va_G} {A : Nat → Prop} {E E' T wr : va_W} {H : Heap} (hP : va_P D vwCl (E ++ T) H) (hD : va_D A (E ++ T)) (n : Nat) (hlen : E.length = n) (isC isR : List Nat) (hp : (isC ++ isR).Perm (List.range n)) (hC : isC.map (fun i => E[i]?) = E'.map some) (hR : isR.map (fun i => E[i]?) = wr.map some) : PD D A (E' ++ T) H :=
  (PD.perm ⟨hP, hD⟩ (permB (pick_perm n hlen isC isR hp hC hR))).left
theorem PD.free {D : va_G} {A0 : Nat → Prop} {wc wr : va_W} {H0 H : Heap} {locs : List Loc} (h : PD D A0 (wc ++ wr) H) (hS : va_S A0 H0 H locs) (hA : ∀ q, H0.size ≤ q → A0 q) : ∀ q, va_A wc H.size q → A0 q := by
  intro q z
  rcases z with ⟨k, e, hk⟩ | z
  · exact (vaD_iff.mp h.2).2 (q, e) (List.mem_append_left _ (List.mem_of_getElem? hk))
  · exact hA q (Nat.le_trans hS.1 z)
theorem pB.ofPD {D : va_G} {cI cJ cZ cR : ClassId} {ws : va_W} {A : Nat → Prop} {s U : State} {H : Heap} (hU : U.heap = H) (hW : s.WarmedH U.vm) (hK : kK D cI cJ cZ cR s) (h : PD D A ws H) : pB D cI cJ cZ cR H.size ws U :=
  ⟨by rw [hU], by rw [hU]; exact h.1, ⟨va_K.moved hW.alike hK.1, hK.2.warm hW⟩, h.2.weaken (fun _ _ _ _ => trivial)⟩
section
variable {p : Program} {l : Launch} {e : Env} {R : Room} {s : State} {m : MethodId} {args : Array Value} {below : List Frame} {meth : Method} {c : Code} {H H0 : Heap} {locs : List Loc} {cells slots : Nat} {Q : State → Prop} {cc bytes : ByteArray} {pc nL maxL : Nat} {ls : Array Slot} {rest : List Value} {A : Nat → Prop} {D : va_G} {cI cJ cZ cR : ClassId} {ws wc wr : va_W} {S : Type} {aft : S → va_W} {fr lo mc ms n index b : Nat} {own C host : String} {y y0 : MethodName} {ret : Option FieldType} {As : List Value}
theorem lv_nmr {x : Value} {q : Nat} (h : x = .ref q) (k : W p l e R s m args below meth c H locs cells slots Q (F0 m pc ls (.ref q :: rest))) : W p l e R s m args below meth c H locs cells slots Q (F0 m pc ls (x :: rest)) := by
  subst h
  exact k
theorem xp_i {st0 : List Value} {a : Array Value} {post : Int32 → S → Prop} (hrun : va_Run p l e R s m args below meth c H locs cells slots mc ms (F0 m pc ls st0) rest (va_Qi post (fun u => bB D (va_A wc H.size) (aft u)) (va_A wc H.size) a) (va_A wc H.size)) (h : PD D A (wc ++ wr) H) (hS : va_S A H0 H locs) (hA : ∀ q, H0.size ≤ q → A q)
    (kk : ∀ (r : Int32) (u : S) (H1 : Heap) (locs1 : List Loc), post r u → PD D A (wr ++ aft u) H1 → va_S A H0 H1 locs1 → W p l e R s m args below meth c H1 locs1 (cells + mc) (slots + ms) Q (F0 m (pc + 3) ls (.int r :: rest))) : W p l e R s m args below meth c H locs cells slots Q (F0 m pc ls st0) := by
  have hFc := h.free hS hA
  refine va_calli hrun hS (fun q _ h => hFc q h) hFc (fun r u t H1 locs1 ht hvm hw hB hz1 hk1 hS1 => ?_)
  obtain ⟨hP1, hD1⟩ := hB
  rw [ht] at hP1
  exact kk r u H1 locs1 hw (h.join hk1 hFc hP1 hD1) hS1
theorem xp_l {st0 : List Value} {a : Array Value} {post : Int64 → S → Prop} (hrun : va_Run p l e R s m args below meth c H locs cells slots mc ms (F0 m pc ls st0) rest (va_Ql post (fun u => bB D (va_A wc H.size) (aft u)) (va_A wc H.size) a) (va_A wc H.size)) (h : PD D A (wc ++ wr) H) (hS : va_S A H0 H locs) (hA : ∀ q, H0.size ≤ q → A q)
    (kk : ∀ (r : Int64) (u : S) (H1 : Heap) (locs1 : List Loc), post r u → PD D A (wr ++ aft u) H1 → va_S A H0 H1 locs1 → W p l e R s m args below meth c H1 locs1 (cells + mc) (slots + ms) Q (F0 m (pc + 3) ls (.long r :: rest))) : W p l e R s m args below meth c H locs cells slots Q (F0 m pc ls st0) := by
  have hFc := h.free hS hA
  refine va_calll hrun hS (fun q _ h => hFc q h) hFc (fun r u t H1 locs1 ht hvm hw hB hz1 hk1 hS1 => ?_)
  obtain ⟨hP1, hD1⟩ := hB
  rw [ht] at hP1
  exact kk r u H1 locs1 hw (h.join hk1 hFc hP1 hD1) hS1
theorem xp_v {st0 : List Value} {a : Array Value} {post : S → Prop} (hrun : va_Run p l e R s m args below meth c H locs cells slots mc ms (F0 m pc ls st0) rest (va_Qv post (fun u => bB D (va_A wc H.size) (aft u)) (va_A wc H.size) a) (va_A wc H.size)) (h : PD D A (wc ++ wr) H) (hS : va_S A H0 H locs) (hA : ∀ q, H0.size ≤ q → A q)
    (kk : ∀ (u : S) (H1 : Heap) (locs1 : List Loc), post u → PD D A (wr ++ aft u) H1 → va_S A H0 H1 locs1 → W p l e R s m args below meth c H1 locs1 (cells + mc) (slots + ms) Q (F0 m (pc + 3) ls rest)) : W p l e R s m args below meth c H locs cells slots Q (F0 m pc ls st0) := by
  have hFc := h.free hS hA
  refine va_callv hrun hS (fun q _ h => hFc q h) hFc (fun u t H1 locs1 ht hvm hw hB hz1 hk1 hS1 => ?_)
  obtain ⟨hP1, hD1⟩ := hB
  rw [ht] at hP1
  exact kk u H1 locs1 hw (h.join hk1 hFc hP1 hD1) hS1
theorem xqV {Qc : Array Value → State → Outcome → State → Prop} {ci q0 : Nat} {fs : List Value} {T : u_T} {N : Nat} (hd : Hd p s m meth c args y0 cc nL) (hK : kK D cI cJ cZ cR s) (h : PD D A wc H) (hM : Met l y (wC y bytes maxL ret) (rM fr mc ms lo) (va_Pc (.ref b :: As) (pB D cI cJ cZ cR H.size wc)) Qc mc ms (va_A wc H.size)) (hG : GoodIn gT (wsV y0.cls index C y (wC y bytes maxL ret)))
    (hdd : y.cls = C ∧ y.cls ≠ "java/lang/invoke/MethodHandle" ∧ y.cls ≠ "java/lang/invoke/VarHandle" ∧ (parseMethodDescriptor y.desc).map (fun d => d.parameters.length) = some n) (hR : fr + 1 ≤ R.frames ∧ 8 + (maxL + 11) + lo ≤ R.locals) (he : wc[q0]? = some (b, .inr (ci, fs))) (hc : vwCl[ci]? = some (C, T, N))
    (hnA : As.length = n) (hls : ls.size = nL) {st0 : List Value} (hst : st0 = As.reverse ++ .ref b :: rest) (hrs : (rest.map fun v => v.category).sum ≤ 8) (hdg : decode cc pc = .ok (.invokevirtual index, 3)) (hf : cells + mc ≤ R.cells ∧ slots + ms ≤ R.slots) :
    va_Run p l e R s m args below meth c H locs cells slots mc ms (F0 m pc ls st0) rest (Qc (Value.ref b :: As).toArray) (va_A wc H.size) := by
  obtain ⟨hx, hb, hml, hown, hts⟩ := hd
  exact va_runV (As := As) (rest := rest) (C := C) ⟨hx, hb, hml, hown, hts⟩ hM (cwV n hts hG rfl rfl rfl hdd hR) ⟨pB.blind, va_recv hK.1 h.1 hc he, fun U hU hW => ⟨rfl, pB.ofPD hU hW hK h⟩⟩ rfl hnA hls hst (lv_room hrs) hdg hf
theorem xqS {Qc : Array Value → State → Outcome → State → Prop} (hd : Hd p s m meth c args y0 cc nL) (hK : kK D cI cJ cZ cR s) (h : PD D A wc H) (hM : Met l y (wC y bytes maxL ret) (rM fr mc ms lo) (va_Pc As (pB D cI cJ cZ cR H.size wc)) Qc mc ms (va_A wc H.size)) (hG : GoodIn gT (va_wsS y0.cls index y (wC y bytes maxL ret)))
    (hdd : y.cls ≠ "java/lang/invoke/MethodHandle" ∧ y.cls ≠ "java/lang/invoke/VarHandle" ∧ (parseMethodDescriptor y.desc).map (fun d => d.parameters.length) = some n) (hR : fr + 1 ≤ R.frames ∧ 8 + (maxL + 11) + lo ≤ R.locals)
    (hnA : As.length = n) (hls : ls.size = nL) {st0 : List Value} (hst : st0 = As.reverse ++ rest) (hrs : (rest.map fun v => v.category).sum ≤ 8) (hdg : decode cc pc = .ok (.invokestatic index, 3)) (hf : cells + mc ≤ R.cells ∧ slots + ms ≤ R.slots) :
    va_Run p l e R s m args below meth c H locs cells slots mc ms (F0 m pc ls st0) rest (Qc As.toArray) (va_A wc H.size) := by
  obtain ⟨hx, hb, hml, hown, hts⟩ := hd
  exact va_runS (As := As) (rest := rest) ⟨hx, hb, hml, hown, hts⟩ hM (va_cwS n hts hG rfl rfl rfl hdd hR) ⟨pB.blind, fun U hU hW => ⟨rfl, pB.ofPD hU hW hK h⟩⟩ rfl hnA hls hst (lv_room hrs) hdg hf
theorem xqSN {Qc : Array Value → State → Outcome → State → Prop} (hd : Hd p s m meth c args y0 cc nL) (hK : kK D cI cJ cZ cR s) (h : PD D A wc H) (hM : Met l y (wC y bytes maxL ret) (rM fr mc ms lo) (va_Pc As (pB D cI cJ cZ cR H.size wc)) Qc mc ms (va_A wc H.size)) (hcd : Cond.code y bytes maxL ret ∈ gT) (hst0 : Cond.static y ∈ gT) (hin0 : Cond.initialized y.cls ∈ gT) (hln : va_Nw (.methodLinkNest y0.cls index y host) s)
    (hdd : y.cls ≠ "java/lang/invoke/MethodHandle" ∧ y.cls ≠ "java/lang/invoke/VarHandle" ∧ (parseMethodDescriptor y.desc).map (fun d => d.parameters.length) = some n) (hR : fr + 1 ≤ R.frames ∧ 8 + (maxL + 11) + lo ≤ R.locals)
    (hnA : As.length = n) (hls : ls.size = nL) {st0 : List Value} (hst : st0 = As.reverse ++ rest) (hrs : (rest.map fun v => v.category).sum ≤ 8) (hdg : decode cc pc = .ok (.invokestatic index, 3)) (hf : cells + mc ≤ R.cells ∧ slots + ms ≤ R.slots) :
    va_Run p l e R s m args below meth c H locs cells slots mc ms (F0 m pc ls st0) rest (Qc As.toArray) (va_A wc H.size) := by
  obtain ⟨hx, hb, hml, hown, hts⟩ := hd
  exact va_runSN (As := As) (rest := rest) ⟨hx, hb, hml, hown, hts⟩ hM ⟨va_cnB n hts (gW hcd) rfl rfl rfl hln (hts _ hin0) hdd hR, hts _ hst0, trivial⟩ ⟨pB.blind, fun U hU hW => ⟨rfl, pB.ofPD hU hW hK h⟩⟩ rfl hnA hls hst (lv_room hrs) hdg hf
end
/-! the book's rules: addresses (rule, body, its three rows, slots, ways, hues); open, size, nodes; the rows -/
abbrev RT : Type := (Nat × Nat × Nat × Nat × Nat × Nat × Nat × Nat) × (Int32 × Int32 × Int32) × ((Nat → Int32) × (Nat → Int32) × (Nat → Int32) × (Nat → Int32) × (Nat → Int32) × (Nat → Int32))
def RC (cI : ClassId) (t : RT) : va_W := [(t.1.1, .inr (4, [.int t.2.1.1, .ref t.1.2.1, .ref t.1.2.2.2.2.2.1, .ref t.1.2.2.2.2.2.2.1, .ref t.1.2.2.2.2.2.2.2])), (t.1.2.1, .inr (0, [.ref t.1.2.2.1, .ref t.1.2.2.2.1, .ref t.1.2.2.2.2.1, .int t.2.1.2.1, .int t.2.1.2.2])), (t.1.2.2.1, .inl (cI, 3, .inl t.2.2.1)), (t.1.2.2.2.1, .inl (cI, 3, .inl t.2.2.2.1)), (t.1.2.2.2.2.1, .inl (cI, 3, .inl t.2.2.2.2.1)), (t.1.2.2.2.2.2.1, .inl (cI, 3, .inl t.2.2.2.2.2.1)), (t.1.2.2.2.2.2.2.1, .inl (cI, 64, .inl t.2.2.2.2.2.2.1)), (t.1.2.2.2.2.2.2.2, .inl (cI, 64, .inl t.2.2.2.2.2.2.2))]
def RWn (cI : ClassId) (ρ : Nat → RT) : Nat → va_W
  | 0 => []
  | n + 1 => RWn cI ρ n ++ RC cI (ρ n)
def RWx (cI : ClassId) (ρ : Nat → RT) (j : Nat) : Nat → va_W
  | 0 => []
  | n + 1 => if n = j then RWx cI ρ j n else RWx cI ρ j n ++ RC cI (ρ n)
def RB (cI : ClassId) (ρ : Nat → RT) : va_W := RWn cI ρ 9
def RX (cI : ClassId) (ρ : Nat → RT) (j : Nat) : va_W := RWx cI ρ j 9
theorem RWx_le {cI : ClassId} {ρ : Nat → RT} {j : Nat} : ∀ n, n ≤ j → RWx cI ρ j n = RWn cI ρ n := by
  intro n
  induction n with
  | zero => intro _; rfl
  | succ n ih =>
    intro h
    rw [RWx, RWn, if_neg (by omega), ih (by omega)]
theorem RW_perm {cI : ClassId} {ρ : Nat → RT} {j : Nat} : ∀ n, j < n → (RWn cI ρ n).Perm (RC cI (ρ j) ++ RWx cI ρ j n) := by
  intro n
  induction n with
  | zero => intro h; omega
  | succ n ih =>
    intro h
    rw [RWn, RWx]
    by_cases hj : n = j
    · subst hj
      rw [if_pos rfl, RWx_le n (Nat.le_refl n)]
      exact List.perm_append_comm
    · rw [if_neg hj]
      refine ((ih (by omega)).append_right _).trans ?_
      rw [List.append_assoc]
theorem RWx_up {cI : ClassId} {ρ : Nat → RT} {j : Nat} {t : RT} : ∀ n, RWx cI (va_up ρ j t) j n = RWx cI ρ j n := by
  intro n
  induction n with
  | zero => rfl
  | succ n ih =>
    rw [RWx, RWx, ih]
    by_cases hj : n = j
    · rw [if_pos hj, if_pos hj]
    · rw [if_neg hj, if_neg hj]
      have : va_up ρ j t n = ρ n := by simp [va_up, hj]
      rw [this]
theorem focus {D : va_G} {A : Nat → Prop} {E : va_W} {H : Heap} {cI : ClassId} {ρ : Nat → RT} (j : Nat) (hj : j < 9) (hP : va_P D vwCl (E ++ RB cI ρ) H) (hD : va_D A (E ++ RB cI ρ)) : PD D A ((E ++ RC cI (ρ j)) ++ RX cI ρ j) H := by
  refine PD.perm ⟨hP, hD⟩ ?_
  rw [List.append_assoc]
  exact (RW_perm 9 hj).append_left E
theorem unfocus {D : va_G} {A : Nat → Prop} {E : va_W} {H : Heap} {cI : ClassId} {ρ : Nat → RT} (j : Nat) (hj : j < 9) (t : RT) (hP : va_P D vwCl ((E ++ RC cI t) ++ RX cI ρ j) H) (hD : va_D A ((E ++ RC cI t) ++ RX cI ρ j)) : PD D A (E ++ RB cI (va_up ρ j t)) H := by
  refine PD.perm ⟨hP, hD⟩ ?_
  rw [List.append_assoc]
  refine List.Perm.append_left E ?_
  have h := (RW_perm (cI := cI) (ρ := va_up ρ j t) 9 hj).symm
  rw [RWx_up] at h
  have ht : va_up ρ j t j = t := by simp [va_up]
  rw [ht] at h
  exact h
theorem unfocus0 {D : va_G} {A : Nat → Prop} {E : va_W} {H : Heap} {cI : ClassId} {ρ : Nat → RT} (j : Nat) (hj : j < 9) (hP : va_P D vwCl ((E ++ RC cI (ρ j)) ++ RX cI ρ j) H) (hD : va_D A ((E ++ RC cI (ρ j)) ++ RX cI ρ j)) : PD D A (E ++ RB cI ρ) H := by
  refine PD.perm ⟨hP, hD⟩ ?_
  rw [List.append_assoc]
  exact ((RW_perm 9 hj).append_left E).symm
