section
variable {p : Program} {l : Launch} {e : Env} {R : Room} {s : State} {m : MethodId} {args : Array Value} {below : List Frame} {meth : Method} {c : Code} {H H0 : Heap} {locs : List Loc} {cells slots : Nat} {Q : State → Prop} {cc bytes : ByteArray} {pc nL maxL : Nat} {ls : Array Slot} {rest : List Value} {A : Nat → Prop} {D : va_G} {cI cJ cZ cR : ClassId} {ws wc wr : va_W} {S : Type} {aft : S → va_W} {fr lo mc ms n index b : Nat} {own C host : String} {y y0 : MethodName} {ret : Option FieldType} {As : List Value}
theorem xqI {Qc : Array Value → State → Outcome → State → Prop} (hd : Hd p s m meth c args y0 cc nL) (hK : kK D cI cJ cZ cR s) (h : PD D A wc H) (hM : Met l y (wC y bytes maxL none) (rM fr mc ms lo) (va_Pc (.ref b :: As) (pB D cI cJ cZ cR H.size wc)) Qc mc ms (va_A wc H.size)) (hcd : Cond.code y bytes maxL none ∈ gT) (hin0 : Cond.initialized y.cls ∈ gT) (hln : Cond.methodLink y0.cls index y ∈ gT) (him : Cond.instanceMethod y ∈ gT) (hy1 : y.name = "<init>")
    (hdd : y.cls ≠ "java/lang/invoke/MethodHandle" ∧ y.cls ≠ "java/lang/invoke/VarHandle" ∧ (parseMethodDescriptor y.desc).map (fun d => d.parameters.length) = some n) (hR : fr + 1 ≤ R.frames ∧ 8 + (maxL + 11) + lo ≤ R.locals)
    (hnA : As.length = n) (hls : ls.size = nL) {st0 : List Value} (hst : st0 = As.reverse ++ .ref b :: rest) (hrs : (rest.map fun v => v.category).sum ≤ 8) (hdg : decode cc pc = .ok (.invokespecial index, 3)) (hf : cells + mc ≤ R.cells ∧ slots + ms ≤ R.slots) :
    va_Run p l e R s m args below meth c H locs cells slots mc ms (F0 m pc ls st0) rest (Qc (Value.ref b :: As).toArray) (va_A wc H.size) := by
  obtain ⟨hx, hb, hml, hown, hts⟩ := hd
  exact va_runI (As := As) (rest := rest) ⟨hx, hb, hml, hown, hts⟩ hM (cwI n hts (gW hcd) rfl rfl rfl (hts _ hin0) (hts _ hln) (hts _ him) hy1 hdd hR) ⟨pB.blind, fun U hU hW => ⟨rfl, pB.ofPD hU hW hK h⟩⟩ rfl hnA hls hst (lv_room hrs) hdg hf
theorem xqIN {Qc : Array Value → State → Outcome → State → Prop} (hd : Hd p s m meth c args y0 cc nL) (hK : kK D cI cJ cZ cR s) (h : PD D A wc H) (hM : Met l y (wC y bytes maxL none) (rM fr mc ms lo) (va_Pc (.ref b :: As) (pB D cI cJ cZ cR H.size wc)) Qc mc ms (va_A wc H.size)) (hcd : Cond.code y bytes maxL none ∈ gT) (hin0 : Cond.initialized y.cls ∈ gT) (hln : va_Nw (.methodLinkNest y0.cls index y host) s) (him : Cond.instanceMethod y ∈ gT) (hy1 : y.name = "<init>")
    (hdd : y.cls ≠ "java/lang/invoke/MethodHandle" ∧ y.cls ≠ "java/lang/invoke/VarHandle" ∧ (parseMethodDescriptor y.desc).map (fun d => d.parameters.length) = some n) (hR : fr + 1 ≤ R.frames ∧ 8 + (maxL + 11) + lo ≤ R.locals)
    (hnA : As.length = n) (hls : ls.size = nL) {st0 : List Value} (hst : st0 = As.reverse ++ .ref b :: rest) (hrs : (rest.map fun v => v.category).sum ≤ 8) (hdg : decode cc pc = .ok (.invokespecial index, 3)) (hf : cells + mc ≤ R.cells ∧ slots + ms ≤ R.slots) :
    va_Run p l e R s m args below meth c H locs cells slots mc ms (F0 m pc ls st0) rest (Qc (Value.ref b :: As).toArray) (va_A wc H.size) := by
  obtain ⟨hx, hb, hml, hown, hts⟩ := hd
  exact va_runIN (As := As) (rest := rest) ⟨hx, hb, hml, hown, hts⟩ hM ⟨va_cnB n hts (gW hcd) rfl rfl rfl hln (hts _ hin0) hdd hR, hy1, hts _ him⟩ ⟨pB.blind, fun U hU hW => ⟨rfl, pB.ofPD hU hW hK h⟩⟩ rfl hnA hls hst (lv_room hrs) hdg hf
end
def rt0 : Nat → RT := fun _ => ((0, 0, 0, 0, 0, 0, 0, 0), (0, 0, 0), (fun _ => 0, fun _ => 0, fun _ => 0, fun _ => 0, fun _ => 0, fun _ => 0))
theorem RWn_up {cI : ClassId} {ρ : Nat → RT} {i : Nat} {t : RT} : ∀ n, n ≤ i → RWn cI (va_up ρ i t) n = RWn cI ρ n := by
  intro n
  induction n with
  | zero => intro _; rfl
  | succ n ih =>
    intro h
    have e : va_up ρ i t n = ρ n := by
      have hne : ¬ n = i := by omega
      simp [va_up, hne]
    rw [RWn, RWn, ih (by omega), e]
theorem absorb {D : va_G} {A : Nat → Prop} {E : va_W} {H : Heap} {cI : ClassId} {ρ : Nat → RT} {i : Nat} {t : RT} (hP : va_P D vwCl ((E ++ RC cI t) ++ RWn cI ρ i) H) (hD : va_D A ((E ++ RC cI t) ++ RWn cI ρ i)) : PD D A (E ++ RWn cI (va_up ρ i t) (i + 1)) H := by
  refine PD.perm ⟨hP, hD⟩ ?_
  have e : va_up ρ i t i = t := by simp [va_up]
  rw [RWn, RWn_up i (Nat.le_refl i), e, List.append_assoc]
  exact List.perm_append_comm.append_left E
theorem row_s {f : Nat → Option Nat} {ρ : Nat → RT} {i q : Nat} {t : RT} (h : ∀ j, j < i → f j = some ((ρ j).1.1)) (ht : t.1.1 = q) : ∀ j, j < i + 1 → va_up f i (some q) j = some ((va_up ρ i t j).1.1) := fun j hj => by
  by_cases h9 : j = i
  · subst h9
    simp [va_up, ht]
  · have h8 := h j (by omega)
    simp [va_up, h9, h8]
