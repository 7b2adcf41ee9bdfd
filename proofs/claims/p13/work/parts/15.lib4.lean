theorem va_P.rowQ {D : va_G} {ws : va_W} {H : Heap} {a n : Nat} {cA : ClassId} {f g : Nat → Option Nat} {A : Nat → Prop} (k : Nat) (hP : va_P D vwCl ws H) (hD : va_D A ws) (he : ws[k]? = some (a, .inl (cA, n, .inr (.inr (.inr (.inr f)))))) (h : ∀ j, j < n → f j = g j) : va_P D vwCl (ws.set k (a, .inl (cA, n, .inr (.inr (.inr (.inr g)))))) H ∧ va_D A (ws.set k (a, .inl (cA, n, .inr (.inr (.inr (.inr g)))))) := by
  refine ⟨hP.set hD he ?_ (fun _ _ => rfl), hD.set he⟩
  have h1 : H[a]? = some (vp_cell cA (n, .inr (.inr (.inr (.inr f))))) := hP k _ he
  show H[a]? = some (vp_cell cA (n, .inr (.inr (.inr (.inr g)))))
  rw [h1, vp_cell_q, vp_cell_q, arrV_ext (fun j hj => by rw [h j hj])]
/-- what a rule holds that was read from a page -/
def RNew (pf : Nat → Int32) (z : Nat) (t : RT) : Prop := t.2.1.1 = cL (pf 0) ∧ t.2.1.2.1 = nI ((z - 2) / 3) ∧ t.2.1.2.2 = nI (ndN pf z) ∧ edT pf 2 ((z - 2) / 3) t.2.2.1 t.2.2.2.1 t.2.2.2.2.1 ∧ (∀ j, j < 3 → t.2.2.2.2.2.1 j = slv t.2.2.1 ((z - 2) / 3) j) ∧ (∀ j, j < 64 → lt4 (t.2.2.2.2.2.2.1 j)) ∧ ∀ j, j < 64 → lt4 (t.2.2.2.2.2.2.2 j)
theorem fm_perm {α β : Type} (f : α → List β) {a b : List α} (h : a.Perm b) : (a.flatMap f).Perm (b.flatMap f) := by
  induction h with
  | nil => exact List.Perm.refl _
  | cons x h ih => rw [List.flatMap_cons, List.flatMap_cons]; exact ih.append_left _
  | swap x y l =>
    rw [List.flatMap_cons, List.flatMap_cons, List.flatMap_cons, List.flatMap_cons, ← List.append_assoc, ← List.append_assoc]
    exact List.perm_append_comm.append_right _
  | trans h1 h2 i1 i2 => exact i1.trans i2
theorem RWn_fm {cI : ClassId} {ρ : Nat → RT} : ∀ n, RWn cI ρ n = (List.range n).flatMap (fun k => RC cI (ρ k)) := by
  intro n
  induction n with
  | zero => rfl
  | succ n ih => rw [RWn, ih, List.range_succ, List.flatMap_append]; simp
/-- where the rules are behind a drop of rule k out of r -/
def sg (k r j : Nat) : Nat := if j < k then j else if j + 1 < r then j + 1 else if j + 1 = r then k else j
theorem sg_perm : ∀ r, r < 10 → ∀ k, k < r → ((List.range 9).map (sg k r)).Perm (List.range 9) := by decide +kernel
theorem RB_perm {cI : ClassId} {ρ : Nat → RT} {k r : Nat} (hr : r ≤ 9) (hk : k < r) : (RB cI ρ).Perm (RB cI (fun j => ρ (sg k r j))) := by
  rw [RB, RB, RWn_fm, RWn_fm]
  have h := fm_perm (fun k => RC cI (ρ k)) (sg_perm r (by omega) k hk)
  rw [List.flatMap_map] at h
  exact h.symm
theorem RB_any {D : va_G} {tys : List (ClassId × FieldType)} {s : State} {H : Heap} {E : va_W} {cI : ClassId} {ρ : Nat → RT} {A : Nat → Prop} {j : Nat} (hj : j < 9) (hK : va_K D vwCl tys s) (hP : va_P D vwCl (E ++ RB cI ρ) H) (hD : va_D A (E ++ RB cI ρ)) : va_Any "GrownGraphs$Rule" s H (ρ j).1.1 := by
  have h := (focus j hj hP hD).1
  have hm : ((ρ j).1.1, (.inr (4, [.int (ρ j).2.1.1, .ref (ρ j).1.2.1, .ref (ρ j).1.2.2.2.2.2.1, .ref (ρ j).1.2.2.2.2.2.2.1, .ref (ρ j).1.2.2.2.2.2.2.2]) : va_E)) ∈ (E ++ RC cI (ρ j)) ++ RX cI ρ j := List.mem_append_left _ (List.mem_append_right _ (by rw [RC]; exact List.mem_cons_self))
  obtain ⟨q0, hq⟩ := List.mem_iff_getElem?.mp hm
  refine va_rAny hK h hq (show vwCl[4]? = some (RX4, TX4, 5) from rfl) (fun comp c0 h1 h2 => ?_)
  have h3 : s.vm.findClass RX4 = some comp := h1
  rw [h3] at h2
  obtain rfl := Option.some.inj h2
  exact Vm.assignable_self _ _
/-- the row of the rules while a drop goes through it: places from k up to i hold the next one's -/
def sgr (ρ : Nat → RT) (k i : Nat) (g : Nat → Option Nat) : Prop := ∀ j, j < 9 → g j = some (if k ≤ j ∧ j < i then (ρ (j + 1)).1.1 else (ρ j).1.1)
theorem sgr_s {ρ : Nat → RT} {k i : Nat} {g : Nat → Option Nat} (hk : k ≤ i) (h : sgr ρ k i g) : sgr ρ k (i + 1) (va_up g i (some (ρ (i + 1)).1.1)) := fun j hj => by
  by_cases h9 : j = i
  · subst h9
    rw [if_pos ⟨hk, by omega⟩]
    simp [va_up]
  · have := h j hj
    simp only [va_up, if_neg h9]
    rw [this]
    by_cases h8 : k ≤ j ∧ j < i
    · rw [if_pos h8, if_pos ⟨h8.1, by omega⟩]
    · rw [if_neg h8, if_neg (by omega)]
theorem sgr_e {ρ : Nat → RT} {k r : Nat} {g : Nat → Option Nat} (hk : k < r) (hr : r ≤ 9) (h : sgr ρ k (r - 1) g) : ∀ j, j < 9 → va_up g (r - 1) (some (ρ k).1.1) j = some ((ρ (sg k r j)).1.1) := fun j hj => by
  by_cases h9 : j = r - 1
  · simp only [va_up, if_pos h9, sg]
    rw [if_neg (by omega), if_neg (by omega), if_pos (by omega)]
  · simp only [va_up, if_neg h9]
    rw [h j hj]
    by_cases h8 : k ≤ j ∧ j < r - 1
    · rw [if_pos h8, sg, if_neg (by omega), if_pos (by omega)]
    · rw [if_neg h8, sg]
      by_cases h7 : j < k
      · rw [if_pos h7]
      · rw [if_neg h7, if_neg (by omega), if_neg (by omega)]
