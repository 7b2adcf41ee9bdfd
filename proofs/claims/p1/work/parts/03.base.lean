/-! the words that every contract of ours carries: the good ones of the tables, in one list -/
def gT : List Cond := lw_tbl.filter goodWord
theorem gT_of {w : Cond} (h : w ∈ lw_tbl) (g : goodWord w = true) : w ∈ gT := List.mem_filter.mpr ⟨h, g⟩
theorem gT_tab {w : Cond} (h : w ∈ tables_1) (g : goodWord w = true) : w ∈ gT := gT_of (List.mem_append_right _ h) g
theorem gT_sel {w : Cond} (h : w ∈ k2_sels lw_privs) (g : goodWord w = true) : w ∈ gT := gT_of (List.mem_append_left _ h) g
theorem gT_good {w : Cond} (h : w ∈ gT) : w ∈ gT ∧ ((w.onTables && w.keeps) = true ∨ ∃ ty, w = .arrayClass ty) := ⟨h, good_of_word (List.mem_filter.mp h).2⟩
def wC (y : MethodName) (cc : ByteArray) (n : Nat) (ret : Option FieldType) : List Cond := Cond.code y cc n ret :: gT
theorem gW {y : MethodName} {cc : ByteArray} {n : Nat} {ret : Option FieldType} (h : Cond.code y cc n ret ∈ gT) : GoodIn gT (wC y cc n ret) := fun w hw => by
  rcases List.mem_cons.mp hw with rfl | h2
  · exact gT_good h
  · exact gT_good h2
theorem gV {own C : String} {idx : Nat} {y : MethodName} {cc : ByteArray} {n : Nat} {ret : Option FieldType} (h1 : Cond.methodLink own idx y ∈ gT) (h : Cond.instanceMethod y ∈ gT ∧ Cond.selects C y y ∈ gT ∧ Cond.initialized C ∈ gT ∧ Cond.code y cc n ret ∈ gT) : GoodIn gT (wsV own idx C y (wC y cc n ret)) := fun w hw => by
  rcases List.mem_append.mp hw with h2 | h2
  · simp only [List.mem_cons, List.not_mem_nil, or_false] at h2
    rcases h2 with rfl | rfl | rfl | rfl
    · exact gT_good h1
    · exact gT_good h.1
    · exact gT_good h.2.1
    · exact gT_good h.2.2.1
  · exact gW h.2.2.2 w h2
theorem gS {own : String} {idx : Nat} {y : MethodName} {cc : ByteArray} {n : Nat} {ret : Option FieldType} (h1 : Cond.methodLink own idx y ∈ gT) (h : Cond.static y ∈ gT ∧ Cond.initialized y.cls ∈ gT ∧ Cond.code y cc n ret ∈ gT) : GoodIn gT (va_wsS own idx y (wC y cc n ret)) := fun w hw => by
  rcases List.mem_append.mp hw with h2 | h2
  · simp only [List.mem_cons, List.not_mem_nil, or_false] at h2
    rcases h2 with rfl | rfl | rfl
    · exact gT_good h1
    · exact gT_good h.1
    · exact gT_good h.2.1
  · exact gW h.2.2 w h2
/-! what never changes: the classes, the array classes, the nest's links -/
abbrev gY (cI cJ cZ cR : ClassId) : List (ClassId × FieldType) := [(cI, .int), (cJ, .long), (cZ, .boolean), (cR, .object "GrownGraphs$Rule")]
def kN (U : State) : Prop := va_Nw (.methodLinkNest RX6 9 yX3_init RX6) U ∧ va_Nw (.methodLinkNest RX5 21 yX4_init RX6) U ∧ va_Nw (.methodLinkNest RX6 34 yX2_init RX6) U ∧ va_Nw (.methodLinkNest RX6 41 yX1_init RX6) U ∧ va_Nw (.methodLinkNest RX3 31 yX6_isOpen RX6) U ∧ va_Nw (.methodLinkNest RX0 32 yX6_isOpen RX6) U ∧ va_Nw (.methodLinkNest RX2 102 yX6_isOpen RX6) U ∧ va_AO "GrownGraphs$Rule" U
theorem kN.warm {s U : State} (hW : s.WarmedH U.vm) (h : kN s) : kN U := ⟨va_Nw.warmM hW h.1, va_Nw.warmM hW h.2.1, va_Nw.warmM hW h.2.2.1, va_Nw.warmM hW h.2.2.2.1, va_Nw.warmM hW h.2.2.2.2.1, va_Nw.warmM hW h.2.2.2.2.2.1, va_Nw.warmM hW h.2.2.2.2.2.2.1, va_AO.moved hW.alike h.2.2.2.2.2.2.2⟩
theorem kN.same {s U : State} (hW : s.vm = U.vm) (h : kN s) : kN U := ⟨va_Nw.same rfl hW h.1, va_Nw.same rfl hW h.2.1, va_Nw.same rfl hW h.2.2.1, va_Nw.same rfl hW h.2.2.2.1, va_Nw.same rfl hW h.2.2.2.2.1, va_Nw.same rfl hW h.2.2.2.2.2.1, va_Nw.same rfl hW h.2.2.2.2.2.2.1, va_AO.moved (by rw [hW]; exact Vm.Alike.refl _) h.2.2.2.2.2.2.2⟩
def kK (D : va_G) (cI cJ cZ cR : ClassId) (U : State) : Prop := va_K D vwCl (gY cI cJ cZ cR) U ∧ kN U
def pB (D : va_G) (cI cJ cZ cR : ClassId) (sz : Nat) (ws : va_W) (U : State) : Prop := U.heap.size = sz ∧ va_P D vwCl ws U.heap ∧ kK D cI cJ cZ cR U ∧ va_D (fun _ => True) ws
def bB (D : va_G) (A : Nat → Prop) (ws : va_W) (t : State) : Prop := va_P D vwCl ws t.heap ∧ va_D A ws
theorem pB.blind {D : va_G} {cI cJ cZ cR : ClassId} {sz : Nat} {ws : va_W} {av : List Value} : FrameBlind (va_Pc av (pB D cI cJ cZ cR sz ws)) := fun a U g mk q => by
  obtain ⟨q0, q1, qP, ⟨qK, qN⟩, qD⟩ := q
  exact ⟨q0, q1, qP, ⟨va_K.moved (u := U) (U := U.calling g mk a) (Vm.Alike.refl U.vm) qK, kN.same (s := U) rfl qN⟩, qD⟩
theorem pB.pre {D : va_G} {cI cJ cZ cR : ClassId} {ws wc : va_W} {A : Nat → Prop} {s U : State} {H : Heap} (hU : U.heap = H) (hW : s.WarmedH U.vm) (hK : kK D cI cJ cZ cR s) (hP : va_P D vwCl ws H) (hD : va_D A ws) (isC : List Nat) (hn : va_nd isC = true) (hC : isC.map (fun i => ws[i]?) = wc.map some) : pB D cI cJ cZ cR H.size wc U := by
  refine ⟨by rw [hU], ?_, ⟨va_K.moved hW.alike hK.1, hK.2.warm hW⟩, (hD.sub isC hn hC).weaken (fun _ _ _ _ => trivial)⟩
  rw [hU]
  intro k q hk
  have h1 : (isC.map (fun i => ws[i]?))[k]? = some (some q) := by rw [hC, List.getElem?_map, hk]; rfl
  rw [List.getElem?_map] at h1
  cases hi : isC[k]? with
  | none => rw [hi] at h1; cases h1
  | some i => rw [hi] at h1; exact hP i q (Option.some.inj h1)
/-! contracts, by what they answer -/
abbrev rM (fr mc ms lo : Nat) : Room := { frames := fr, cells := mc, slots := ms, locals := lo }
def CTi (l : Launch) (D : va_G) (cI cJ cZ cR : ClassId) (y : MethodName) (cc : ByteArray) (n : Nat) (ret : Option FieldType) (fr lo mc ms sz : Nat) (av : List Value) (W0 : va_W) {S : Type} (post : Int32 → S → Prop) (aft : S → va_W) : Prop := Met l y (wC y cc n ret) (rM fr mc ms lo) (va_Pc av (pB D cI cJ cZ cR sz W0)) (va_Qi post (fun u => bB D (va_A W0 sz) (aft u)) (va_A W0 sz)) mc ms (va_A W0 sz)
def CTl (l : Launch) (D : va_G) (cI cJ cZ cR : ClassId) (y : MethodName) (cc : ByteArray) (n : Nat) (ret : Option FieldType) (fr lo mc ms sz : Nat) (av : List Value) (W0 : va_W) {S : Type} (post : Int64 → S → Prop) (aft : S → va_W) : Prop := Met l y (wC y cc n ret) (rM fr mc ms lo) (va_Pc av (pB D cI cJ cZ cR sz W0)) (va_Ql post (fun u => bB D (va_A W0 sz) (aft u)) (va_A W0 sz)) mc ms (va_A W0 sz)
def CTv (l : Launch) (D : va_G) (cI cJ cZ cR : ClassId) (y : MethodName) (cc : ByteArray) (n : Nat) (ret : Option FieldType) (fr lo mc ms sz : Nat) (av : List Value) (W0 : va_W) {S : Type} (post : S → Prop) (aft : S → va_W) : Prop := Met l y (wC y cc n ret) (rM fr mc ms lo) (va_Pc av (pB D cI cJ cZ cR sz W0)) (va_Qv post (fun u => bB D (va_A W0 sz) (aft u)) (va_A W0 sz)) mc ms (va_A W0 sz)
/-- what a walk has at its start -/
def Hd (p : Program) (s : State) (m : MethodId) (meth : Method) (c : Code) (args : Array Value) (y : MethodName) (cc : ByteArray) (n : Nat) : Prop := p.tables.exec = Jvm.exec ∧ c.code = cc ∧ c.maxLocals = n ∧ s.vm.findClass y.cls = some m.cls ∧ meth.name = y.name ∧ ∀ w ∈ gT, w.before args s = true
section
variable {l : Launch} {D : va_G} {cI cJ cZ cR : ClassId} {y : MethodName} {cc : ByteArray} {n : Nat} {fr lo mc ms sz : Nat} {av : List Value} {W0 : va_W} {S : Type} {aft : S → va_W}
theorem CTi.of {ret : Option FieldType} {ty : FieldType} {post : Int32 → S → Prop} (hy : plainName y.cls = true) (hn : (lg_sl av).length ≤ n) (hret : ret = some ty)
    (body : ∀ (p : Program) (e : Env) (s : State) (m : MethodId) (below : List Frame) (meth : Method) (c : Code) (A : Nat → Prop) (Q : State → Prop) (ls : Array Slot), Hd p s m meth c av.toArray y cc n → kK D cI cJ cZ cR s → s.heap.size = sz → va_P D vwCl W0 s.heap → va_D A W0 → (∀ q, s.heap.size ≤ q → A q) → va_S A s.heap s.heap [] → lv_has ls n (lv_args 0 av) →
      (∀ (H : Heap) (locs : List Loc) (cells slots pc : Nat) (ls : Array Slot) (v : Int32) (u : S), decode cc pc = .ok (.ireturn, 1) → narrow ty (.int v) = .int v → va_S A s.heap H locs → cells ≤ mc → slots ≤ ms → post v u → va_P D vwCl (aft u) H → va_D A (aft u) → W p l e (rM fr mc ms lo) s m av.toArray below meth c H locs cells slots Q (F0 m pc ls [.int v])) →
      W p l e (rM fr mc ms lo) s m av.toArray below meth c s.heap [] 0 0 Q (F0 m 0 ls [])) : CTi l D cI cJ cZ cR y cc n ret fr lo mc ms sz av W0 post aft := by
  subst hret
  refine Met.ofW (cc := cc) (maxL := n) (ret := some ty) hy rfl ?_
  intro p e s m args below meth c s₁ B hml hv
  obtain ⟨rfl, hsz, hP, hK, hD0⟩ := hv
  have hts := atoms_spec (ws := wC y cc n (some ty)) B.pre
  have hlocks := B.notSynchronized
  have hl := lv_entry av (n := n) hn
  rw [lg_entry_eq]
  subst hsz
  exact body p e s m below meth c _ _ _ ⟨B.exec, B.bytes, hml, findClass_of_methodNamed B.named, (name_of_methodNamed B.named B.method).1, fun w h => hts w (List.mem_cons_of_mem _ h)⟩ hK rfl hP hD0.self (fun q h => Or.inr h) va_S.rf hl (fun H locs cells slots pc ls v u hd hnr hS h1 h2 hp hP9 hD9 => by
    refine W.widen h1 h2 ?_
    exact W.zret B.exec B.bytes B.returns hnr (fun t ht hW => ⟨⟨v, u, rfl, hp, by rw [ht]; exact hP9, hD9⟩, hS.F ht⟩) hS.2.2 hd)
theorem CTl.of {ret : Option FieldType} {post : Int64 → S → Prop} (hy : plainName y.cls = true) (hn : (lg_sl av).length ≤ n) (hret : ret = some .long)
    (body : ∀ (p : Program) (e : Env) (s : State) (m : MethodId) (below : List Frame) (meth : Method) (c : Code) (A : Nat → Prop) (Q : State → Prop) (ls : Array Slot), Hd p s m meth c av.toArray y cc n → kK D cI cJ cZ cR s → s.heap.size = sz → va_P D vwCl W0 s.heap → va_D A W0 → (∀ q, s.heap.size ≤ q → A q) → va_S A s.heap s.heap [] → lv_has ls n (lv_args 0 av) →
      (∀ (H : Heap) (locs : List Loc) (cells slots pc : Nat) (ls : Array Slot) (v : Int64) (u : S), decode cc pc = .ok (.lreturn, 1) → va_S A s.heap H locs → cells ≤ mc → slots ≤ ms → post v u → va_P D vwCl (aft u) H → va_D A (aft u) → W p l e (rM fr mc ms lo) s m av.toArray below meth c H locs cells slots Q (F0 m pc ls [.long v])) →
      W p l e (rM fr mc ms lo) s m av.toArray below meth c s.heap [] 0 0 Q (F0 m 0 ls [])) : CTl l D cI cJ cZ cR y cc n ret fr lo mc ms sz av W0 post aft := by
  subst hret
  refine Met.ofW (cc := cc) (maxL := n) (ret := some .long) hy rfl ?_
  intro p e s m args below meth c s₁ B hml hv
  obtain ⟨rfl, hsz, hP, hK, hD0⟩ := hv
  have hts := atoms_spec (ws := wC y cc n (some .long)) B.pre
  have hlocks := B.notSynchronized
  have hl := lv_entry av (n := n) hn
  rw [lg_entry_eq]
  subst hsz
  exact body p e s m below meth c _ _ _ ⟨B.exec, B.bytes, hml, findClass_of_methodNamed B.named, (name_of_methodNamed B.named B.method).1, fun w h => hts w (List.mem_cons_of_mem _ h)⟩ hK rfl hP hD0.self (fun q h => Or.inr h) va_S.rf hl (fun H locs cells slots pc ls v u hd hS h1 h2 hp hP9 hD9 => by
    refine W.widen h1 h2 ?_
    exact W.lret B.exec B.bytes B.returns (fun t ht hW => ⟨⟨v, u, rfl, hp, by rw [ht]; exact hP9, hD9⟩, hS.F ht⟩) hS.2.2 hd)
theorem CTv.of {ret : Option FieldType} {post : S → Prop} (hy : plainName y.cls = true) (hn : (lg_sl av).length ≤ n) (hret : ret = none)
    (body : ∀ (p : Program) (e : Env) (s : State) (m : MethodId) (below : List Frame) (meth : Method) (c : Code) (A : Nat → Prop) (Q : State → Prop) (ls : Array Slot), Hd p s m meth c av.toArray y cc n → kK D cI cJ cZ cR s → s.heap.size = sz → va_P D vwCl W0 s.heap → va_D A W0 → (∀ q, s.heap.size ≤ q → A q) → va_S A s.heap s.heap [] → lv_has ls n (lv_args 0 av) →
      (∀ (H : Heap) (locs : List Loc) (cells slots pc : Nat) (ls : Array Slot) (u : S), decode cc pc = .ok (.return_, 1) → va_S A s.heap H locs → cells ≤ mc → slots ≤ ms → post u → va_P D vwCl (aft u) H → va_D A (aft u) → W p l e (rM fr mc ms lo) s m av.toArray below meth c H locs cells slots Q (F0 m pc ls [])) →
      W p l e (rM fr mc ms lo) s m av.toArray below meth c s.heap [] 0 0 Q (F0 m 0 ls [])) : CTv l D cI cJ cZ cR y cc n ret fr lo mc ms sz av W0 post aft := by
  subst hret
  refine Met.ofW (cc := cc) (maxL := n) (ret := none) hy rfl ?_
  intro p e s m args below meth c s₁ B hml hv
  obtain ⟨rfl, hsz, hP, hK, hD0⟩ := hv
  have hts := atoms_spec (ws := wC y cc n none) B.pre
  have hlocks := B.notSynchronized
  have hl := lv_entry av (n := n) hn
  rw [lg_entry_eq]
  subst hsz
  exact body p e s m below meth c _ _ _ ⟨B.exec, B.bytes, hml, findClass_of_methodNamed B.named, (name_of_methodNamed B.named B.method).1, fun w h => hts w (List.mem_cons_of_mem _ h)⟩ hK rfl hP hD0.self (fun q h => Or.inr h) va_S.rf hl (fun H locs cells slots pc ls u hd hS h1 h2 hp hP9 hD9 => by
    refine W.widen h1 h2 ?_
    exact W.vret B.exec B.bytes B.returns (fun t ht hW => ⟨⟨u, rfl, hp, by rw [ht]; exact hP9, hD9⟩, hS.F ht⟩) hS.2.2 hd)
end
section
variable {p : Program} {l : Launch} {e : Env} {R : Room} {s : State} {m : MethodId} {args : Array Value} {below : List Frame} {meth : Method} {c : Code} {H H0 : Heap} {locs : List Loc} {cells slots : Nat} {Q : State → Prop} {cc bytes : ByteArray} {pc nL maxL : Nat} {ls : Array Slot} {rest : List Value} {A : Nat → Prop} {D : va_G} {cI cJ cZ cR : ClassId} {ws wc wr : va_W} {S : Type} {aft : S → va_W} {fr lo mc ms n index b : Nat} {own C host : String} {y y0 : MethodName} {ret : Option FieldType} {As : List Value}
theorem lv_nmi {x z : Int32} (h : x = z) (k : W p l e R s m args below meth c H locs cells slots Q (F0 m pc ls (.int z :: rest))) : W p l e R s m args below meth c H locs cells slots Q (F0 m pc ls (.int x :: rest)) := by
  subst h
  exact k
theorem lv_nml {x z : Int64} (h : x = z) (k : W p l e R s m args below meth c H locs cells slots Q (F0 m pc ls (.long z :: rest))) : W p l e R s m args below meth c H locs cells slots Q (F0 m pc ls (.long x :: rest)) := by
  subst h
  exact k
theorem xc_i {st0 : List Value} {a : Array Value} {post : Int32 → S → Prop} (hrun : va_Run p l e R s m args below meth c H locs cells slots mc ms (F0 m pc ls st0) rest (va_Qi post (fun u => bB D (va_A wc H.size) (aft u)) (va_A wc H.size) a) (va_A wc H.size)) (hP : va_P D vwCl ws H) (hD : va_D A ws) (hS : va_S A H0 H locs) (hA : ∀ q, H0.size ≤ q → A q) (isC isR : List Nat) (hC : isC.map (fun i => ws[i]?) = wc.map some) (hR : isR.map (fun i => ws[i]?) = wr.map some) (hn : va_nd isR = true) (hdis : ∀ i ∈ isR, i ∉ isC)
    (kk : ∀ (r : Int32) (u : S) (H1 : Heap) (locs1 : List Loc), post r u → va_P D vwCl (wr ++ aft u) H1 → va_D A (wr ++ aft u) → va_S A H0 H1 locs1 → W p l e R s m args below meth c H1 locs1 (cells + mc) (slots + ms) Q (F0 m (pc + 3) ls (.int r :: rest))) : W p l e R s m args below meth c H locs cells slots Q (F0 m pc ls st0) := by
  have hFc := va_free (wc := wc) hD hS hA isC hC
  refine va_calli hrun hS (fun q _ h => hFc q h) hFc (fun r u t H1 locs1 ht hvm hw hB hz1 hk1 hS1 => ?_)
  obtain ⟨hP1, hD1⟩ := hB
  rw [ht] at hP1
  obtain ⟨hP2, hD2⟩ := va_join hP hD isC isR hC hR hn hdis hk1 hFc hP1 hD1
  exact kk r u H1 locs1 hw hP2 hD2 hS1
theorem xc_l {st0 : List Value} {a : Array Value} {post : Int64 → S → Prop} (hrun : va_Run p l e R s m args below meth c H locs cells slots mc ms (F0 m pc ls st0) rest (va_Ql post (fun u => bB D (va_A wc H.size) (aft u)) (va_A wc H.size) a) (va_A wc H.size)) (hP : va_P D vwCl ws H) (hD : va_D A ws) (hS : va_S A H0 H locs) (hA : ∀ q, H0.size ≤ q → A q) (isC isR : List Nat) (hC : isC.map (fun i => ws[i]?) = wc.map some) (hR : isR.map (fun i => ws[i]?) = wr.map some) (hn : va_nd isR = true) (hdis : ∀ i ∈ isR, i ∉ isC)
    (kk : ∀ (r : Int64) (u : S) (H1 : Heap) (locs1 : List Loc), post r u → va_P D vwCl (wr ++ aft u) H1 → va_D A (wr ++ aft u) → va_S A H0 H1 locs1 → W p l e R s m args below meth c H1 locs1 (cells + mc) (slots + ms) Q (F0 m (pc + 3) ls (.long r :: rest))) : W p l e R s m args below meth c H locs cells slots Q (F0 m pc ls st0) := by
  have hFc := va_free (wc := wc) hD hS hA isC hC
  refine va_calll hrun hS (fun q _ h => hFc q h) hFc (fun r u t H1 locs1 ht hvm hw hB hz1 hk1 hS1 => ?_)
  obtain ⟨hP1, hD1⟩ := hB
  rw [ht] at hP1
  obtain ⟨hP2, hD2⟩ := va_join hP hD isC isR hC hR hn hdis hk1 hFc hP1 hD1
  exact kk r u H1 locs1 hw hP2 hD2 hS1
theorem xc_v {st0 : List Value} {a : Array Value} {post : S → Prop} (hrun : va_Run p l e R s m args below meth c H locs cells slots mc ms (F0 m pc ls st0) rest (va_Qv post (fun u => bB D (va_A wc H.size) (aft u)) (va_A wc H.size) a) (va_A wc H.size)) (hP : va_P D vwCl ws H) (hD : va_D A ws) (hS : va_S A H0 H locs) (hA : ∀ q, H0.size ≤ q → A q) (isC isR : List Nat) (hC : isC.map (fun i => ws[i]?) = wc.map some) (hR : isR.map (fun i => ws[i]?) = wr.map some) (hn : va_nd isR = true) (hdis : ∀ i ∈ isR, i ∉ isC)
    (kk : ∀ (u : S) (H1 : Heap) (locs1 : List Loc), post u → va_P D vwCl (wr ++ aft u) H1 → va_D A (wr ++ aft u) → va_S A H0 H1 locs1 → W p l e R s m args below meth c H1 locs1 (cells + mc) (slots + ms) Q (F0 m (pc + 3) ls rest)) : W p l e R s m args below meth c H locs cells slots Q (F0 m pc ls st0) := by
  have hFc := va_free (wc := wc) hD hS hA isC hC
  refine va_callv hrun hS (fun q _ h => hFc q h) hFc (fun u t H1 locs1 ht hvm hw hB hz1 hk1 hS1 => ?_)
  obtain ⟨hP1, hD1⟩ := hB
  rw [ht] at hP1
  obtain ⟨hP2, hD2⟩ := va_join hP hD isC isR hC hR hn hdis hk1 hFc hP1 hD1
  exact kk u H1 locs1 hw hP2 hD2 hS1
/-! a call on an object of ours, its class by its cell -/
theorem xrV {Qc : Array Value → State → Outcome → State → Prop} {ci q0 : Nat} {fs : List Value} {T : u_T} {N : Nat} (hd : Hd p s m meth c args y0 cc nL) (hK : kK D cI cJ cZ cR s) (hP : va_P D vwCl ws H) (hD : va_D A ws) (hM : Met l y (wC y bytes maxL ret) (rM fr mc ms lo) (va_Pc (.ref b :: As) (pB D cI cJ cZ cR H.size wc)) Qc mc ms (va_A wc H.size)) (hG : GoodIn gT (wsV y0.cls index C y (wC y bytes maxL ret)))
    (hdd : y.cls = C ∧ y.cls ≠ "java/lang/invoke/MethodHandle" ∧ y.cls ≠ "java/lang/invoke/VarHandle" ∧ (parseMethodDescriptor y.desc).map (fun d => d.parameters.length) = some n) (hR : fr + 1 ≤ R.frames ∧ 8 + (maxL + 11) + lo ≤ R.locals) (he : ws[q0]? = some (b, .inr (ci, fs))) (hc : vwCl[ci]? = some (C, T, N)) (isC : List Nat) (hnC : va_nd isC = true) (hC : isC.map (fun i => ws[i]?) = wc.map some)
    (hnA : As.length = n) (hls : ls.size = nL) {st0 : List Value} (hst : st0 = As.reverse ++ .ref b :: rest) (hrs : (rest.map fun v => v.category).sum ≤ 8) (hdg : decode cc pc = .ok (.invokevirtual index, 3)) (hf : cells + mc ≤ R.cells ∧ slots + ms ≤ R.slots) :
    va_Run p l e R s m args below meth c H locs cells slots mc ms (F0 m pc ls st0) rest (Qc (Value.ref b :: As).toArray) (va_A wc H.size) := by
  obtain ⟨hx, hb, hml, hown, -, hts⟩ := hd
  exact va_runV (As := As) (rest := rest) (C := C) ⟨hx, hb, hml, hown, hts⟩ hM (cwV n hts hG rfl rfl rfl hdd hR) ⟨pB.blind, va_recv hK.1 hP hc he, fun U hU hW => ⟨rfl, pB.pre hU hW hK hP hD isC hnC hC⟩⟩ rfl hnA hls hst (lv_room hrs) hdg hf
theorem xrS {Qc : Array Value → State → Outcome → State → Prop} (hd : Hd p s m meth c args y0 cc nL) (hK : kK D cI cJ cZ cR s) (hP : va_P D vwCl ws H) (hD : va_D A ws) (hM : Met l y (wC y bytes maxL ret) (rM fr mc ms lo) (va_Pc As (pB D cI cJ cZ cR H.size wc)) Qc mc ms (va_A wc H.size)) (hG : GoodIn gT (va_wsS y0.cls index y (wC y bytes maxL ret)))
    (hdd : y.cls ≠ "java/lang/invoke/MethodHandle" ∧ y.cls ≠ "java/lang/invoke/VarHandle" ∧ (parseMethodDescriptor y.desc).map (fun d => d.parameters.length) = some n) (hR : fr + 1 ≤ R.frames ∧ 8 + (maxL + 11) + lo ≤ R.locals) (isC : List Nat) (hnC : va_nd isC = true) (hC : isC.map (fun i => ws[i]?) = wc.map some)
    (hnA : As.length = n) (hls : ls.size = nL) {st0 : List Value} (hst : st0 = As.reverse ++ rest) (hrs : (rest.map fun v => v.category).sum ≤ 8) (hdg : decode cc pc = .ok (.invokestatic index, 3)) (hf : cells + mc ≤ R.cells ∧ slots + ms ≤ R.slots) :
    va_Run p l e R s m args below meth c H locs cells slots mc ms (F0 m pc ls st0) rest (Qc As.toArray) (va_A wc H.size) := by
  obtain ⟨hx, hb, hml, hown, -, hts⟩ := hd
  exact va_runS (As := As) (rest := rest) ⟨hx, hb, hml, hown, hts⟩ hM (va_cwS n hts hG rfl rfl rfl hdd hR) ⟨pB.blind, fun U hU hW => ⟨rfl, pB.pre hU hW hK hP hD isC hnC hC⟩⟩ rfl hnA hls hst (lv_room hrs) hdg hf
theorem xrSN {Qc : Array Value → State → Outcome → State → Prop} (hd : Hd p s m meth c args y0 cc nL) (hK : kK D cI cJ cZ cR s) (hP : va_P D vwCl ws H) (hD : va_D A ws) (hM : Met l y (wC y bytes maxL ret) (rM fr mc ms lo) (va_Pc As (pB D cI cJ cZ cR H.size wc)) Qc mc ms (va_A wc H.size)) (hcd : Cond.code y bytes maxL ret ∈ gT) (hst0 : Cond.static y ∈ gT) (hin0 : Cond.initialized y.cls ∈ gT) (hln : va_Nw (.methodLinkNest y0.cls index y host) s)
    (hdd : y.cls ≠ "java/lang/invoke/MethodHandle" ∧ y.cls ≠ "java/lang/invoke/VarHandle" ∧ (parseMethodDescriptor y.desc).map (fun d => d.parameters.length) = some n) (hR : fr + 1 ≤ R.frames ∧ 8 + (maxL + 11) + lo ≤ R.locals) (isC : List Nat) (hnC : va_nd isC = true) (hC : isC.map (fun i => ws[i]?) = wc.map some)
    (hnA : As.length = n) (hls : ls.size = nL) {st0 : List Value} (hst : st0 = As.reverse ++ rest) (hrs : (rest.map fun v => v.category).sum ≤ 8) (hdg : decode cc pc = .ok (.invokestatic index, 3)) (hf : cells + mc ≤ R.cells ∧ slots + ms ≤ R.slots) :
    va_Run p l e R s m args below meth c H locs cells slots mc ms (F0 m pc ls st0) rest (Qc As.toArray) (va_A wc H.size) := by
  obtain ⟨hx, hb, hml, hown, -, hts⟩ := hd
  exact va_runSN (As := As) (rest := rest) ⟨hx, hb, hml, hown, hts⟩ hM ⟨va_cnB n hts (gW hcd) rfl rfl rfl hln (hts _ hin0) hdd hR, hts _ hst0, trivial⟩ ⟨pB.blind, fun U hU hW => ⟨rfl, pB.pre hU hW hK hP hD isC hnC hC⟩⟩ rfl hnA hls hst (lv_room hrs) hdg hf
theorem xrI {Qc : Array Value → State → Outcome → State → Prop} (hd : Hd p s m meth c args y0 cc nL) (hK : kK D cI cJ cZ cR s) (hP : va_P D vwCl ws H) (hD : va_D A ws) (hM : Met l y (wC y bytes maxL none) (rM fr mc ms lo) (va_Pc (.ref b :: As) (pB D cI cJ cZ cR H.size wc)) Qc mc ms (va_A wc H.size)) (hcd : Cond.code y bytes maxL none ∈ gT) (hin0 : Cond.initialized y.cls ∈ gT) (hln : Cond.methodLink y0.cls index y ∈ gT) (him : Cond.instanceMethod y ∈ gT) (hy1 : y.name = "<init>")
    (hdd : y.cls ≠ "java/lang/invoke/MethodHandle" ∧ y.cls ≠ "java/lang/invoke/VarHandle" ∧ (parseMethodDescriptor y.desc).map (fun d => d.parameters.length) = some n) (hR : fr + 1 ≤ R.frames ∧ 8 + (maxL + 11) + lo ≤ R.locals) (isC : List Nat) (hnC : va_nd isC = true) (hC : isC.map (fun i => ws[i]?) = wc.map some)
    (hnA : As.length = n) (hls : ls.size = nL) {st0 : List Value} (hst : st0 = As.reverse ++ .ref b :: rest) (hrs : (rest.map fun v => v.category).sum ≤ 8) (hdg : decode cc pc = .ok (.invokespecial index, 3)) (hf : cells + mc ≤ R.cells ∧ slots + ms ≤ R.slots) :
    va_Run p l e R s m args below meth c H locs cells slots mc ms (F0 m pc ls st0) rest (Qc (Value.ref b :: As).toArray) (va_A wc H.size) := by
  obtain ⟨hx, hb, hml, hown, -, hts⟩ := hd
  exact va_runI (As := As) (rest := rest) ⟨hx, hb, hml, hown, hts⟩ hM (cwI n hts (gW hcd) rfl rfl rfl (hts _ hin0) (hts _ hln) (hts _ him) hy1 hdd hR) ⟨pB.blind, fun U hU hW => ⟨rfl, pB.pre hU hW hK hP hD isC hnC hC⟩⟩ rfl hnA hls hst (lv_room hrs) hdg hf
theorem xrIN {Qc : Array Value → State → Outcome → State → Prop} (hd : Hd p s m meth c args y0 cc nL) (hK : kK D cI cJ cZ cR s) (hP : va_P D vwCl ws H) (hD : va_D A ws) (hM : Met l y (wC y bytes maxL none) (rM fr mc ms lo) (va_Pc (.ref b :: As) (pB D cI cJ cZ cR H.size wc)) Qc mc ms (va_A wc H.size)) (hcd : Cond.code y bytes maxL none ∈ gT) (hin0 : Cond.initialized y.cls ∈ gT) (hln : va_Nw (.methodLinkNest y0.cls index y host) s) (him : Cond.instanceMethod y ∈ gT) (hy1 : y.name = "<init>")
    (hdd : y.cls ≠ "java/lang/invoke/MethodHandle" ∧ y.cls ≠ "java/lang/invoke/VarHandle" ∧ (parseMethodDescriptor y.desc).map (fun d => d.parameters.length) = some n) (hR : fr + 1 ≤ R.frames ∧ 8 + (maxL + 11) + lo ≤ R.locals) (isC : List Nat) (hnC : va_nd isC = true) (hC : isC.map (fun i => ws[i]?) = wc.map some)
    (hnA : As.length = n) (hls : ls.size = nL) {st0 : List Value} (hst : st0 = As.reverse ++ .ref b :: rest) (hrs : (rest.map fun v => v.category).sum ≤ 8) (hdg : decode cc pc = .ok (.invokespecial index, 3)) (hf : cells + mc ≤ R.cells ∧ slots + ms ≤ R.slots) :
    va_Run p l e R s m args below meth c H locs cells slots mc ms (F0 m pc ls st0) rest (Qc (Value.ref b :: As).toArray) (va_A wc H.size) := by
  obtain ⟨hx, hb, hml, hown, -, hts⟩ := hd
  exact va_runIN (As := As) (rest := rest) ⟨hx, hb, hml, hown, hts⟩ hM ⟨va_cnB n hts (gW hcd) rfl rfl rfl hln (hts _ hin0) hdd hR, hy1, hts _ him⟩ ⟨pB.blind, fun U hU hW => ⟨rfl, pB.pre hU hW hK hP hD isC hnC hC⟩⟩ rfl hnA hls hst (lv_room hrs) hdg hf
/-! new rows of the array classes that are known -/
theorem same_arr {tys : List (ClassId × FieldType)} {t0 : Nat} {cA cB : ClassId} {ty : FieldType} (h : va_K D vwCl tys s) (i j : Nat) (hi : tys[i]? = some (cA, ty)) (hj : tys[j]? = some (cB, ty)) : cA = cB := by
  have h1 := (h.2 i _ hi).2
  have h2 := (h.2 j _ hj).2
  unfold va_RA at h1 h2
  cases ty with
  | object C =>
    obtain ⟨-, -, -, -, -, e1⟩ := h1
    obtain ⟨-, -, -, -, -, e2⟩ := h2
    exact Option.some.inj (e1.symm.trans e2)
  | _ => exact Option.some.inj (h1.symm.trans h2)
end
