/-! the reference's lights: numbers from 0 to 2^60, whose sum falls -/
def LR (la : Nat → Int64) : Prop := ∀ k, k < 80 → 0 ≤ (la k).toInt ∧ (la k).toInt ≤ 1152921504606846976
def Msum (la : Nat → Int64) : Nat → Nat
  | 0 => 0
  | n + 1 => Msum la n + (la n).toInt.toNat
theorem Msum_out {la : Nat → Int64} {k : Nat} {x : Int64} : ∀ n, n ≤ k → Msum (vp_updL la k x) n = Msum la n := by
  intro n
  induction n with
  | zero => intro _; rfl
  | succ n ih => intro h; rw [Msum, Msum, ih (by omega), pk_uLn (by omega)]
theorem Msum_in {la : Nat → Int64} {k : Nat} {x : Int64} (hx : x.toInt.toNat < (la k).toInt.toNat) : ∀ n, k < n → Msum (vp_updL la k x) n < Msum la n := by
  intro n
  induction n with
  | zero => intro h; omega
  | succ n ih =>
    intro h
    rw [Msum, Msum]
    by_cases h9 : k = n
    · subst h9
      rw [Msum_out k (Nat.le_refl k), pk_uLs]
      omega
    · rw [pk_uLn (by omega)]
      have := ih (by omega)
      omega
def Mla (la : Nat → Int64) : Nat := Msum la 48
/-- what a step of the lights does: nothing, or one number falls -/
def LD (la la2 : Nat → Int64) (r : Int32) : Prop := LR la2 ∧ ((r = 0 ∧ Mla la2 ≤ Mla la) ∨ (r = 1 ∧ Mla la2 < Mla la))
theorem LD.le {la la2 : Nat → Int64} {r : Int32} (h : LD la la2 r) : Mla la2 ≤ Mla la := by
  rcases h.2 with q | q <;> omega
theorem upd_self {la : Nat → Int64} {k : Nat} : vp_updL la k (la k) = la := by
  funext j
  by_cases h : j = k
  · subst h; exact pk_uLs
  · exact pk_uLn h
theorem LD_no {la : Nat → Int64} (h : LR la) : LD la la 0 := ⟨h, Or.inl ⟨rfl, Nat.le_refl _⟩⟩
theorem LD_yes {la : Nat → Int64} {k : Nat} {x : Int64} (h : LR la) (hk : k < 48) (h0 : 0 ≤ x.toInt) (c : ¬ 0 ≤ lg_cmp x (la k)) : LD la (vp_updL la k x) 1 := by
  have hlt : x.toInt < (la k).toInt := by
    rw [lg_cmp_ge] at c
    simp only [Int64.le_iff_toInt_le] at c
    omega
  refine ⟨fun j hj => ?_, Or.inr ⟨rfl, Msum_in (by omega) 48 hk⟩⟩
  by_cases h9 : j = k
  · subst h9
    rw [pk_uLs]
    have := (h j hj).2
    exact ⟨h0, by omega⟩
  · rw [pk_uLn h9]; exact h j hj
def B12 (b : Int32) : Prop := b = 0 ∨ b = 4 ∨ b = 8 ∨ b = 12
theorem B12_0 {b : Int32} (h : B12 b) : B12 (b ||| 0) := by rcases h with rfl | rfl | rfl | rfl <;> first | exact Or.inl (by decide) | exact Or.inr (Or.inl (by decide)) | exact Or.inr (Or.inr (Or.inl (by decide))) | exact Or.inr (Or.inr (Or.inr (by decide)))
theorem B12_4 {b : Int32} (h : B12 b) : B12 (b ||| 4) := by rcases h with rfl | rfl | rfl | rfl <;> first | exact Or.inl (by decide) | exact Or.inr (Or.inl (by decide)) | exact Or.inr (Or.inr (Or.inl (by decide))) | exact Or.inr (Or.inr (Or.inr (by decide)))
theorem B12_8 {b : Int32} (h : B12 b) : B12 (b ||| 8) := by rcases h with rfl | rfl | rfl | rfl <;> first | exact Or.inl (by decide) | exact Or.inr (Or.inl (by decide)) | exact Or.inr (Or.inr (Or.inl (by decide))) | exact Or.inr (Or.inr (Or.inr (by decide)))
theorem or12 {b : Int32} {c : Nat} (hc : c < 4) (h : B12 b) : ∃ k, k < 16 ∧ nI c ||| b = nI k := by
  rcases (show c = 0 ∨ c = 1 ∨ c = 2 ∨ c = 3 by omega) with rfl | rfl | rfl | rfl <;> rcases h with rfl | rfl | rfl | rfl
  · exact ⟨0, by decide, by decide⟩
  · exact ⟨4, by decide, by decide⟩
  · exact ⟨8, by decide, by decide⟩
  · exact ⟨12, by decide, by decide⟩
  · exact ⟨1, by decide, by decide⟩
  · exact ⟨5, by decide, by decide⟩
  · exact ⟨9, by decide, by decide⟩
  · exact ⟨13, by decide, by decide⟩
  · exact ⟨2, by decide, by decide⟩
  · exact ⟨6, by decide, by decide⟩
  · exact ⟨10, by decide, by decide⟩
  · exact ⟨14, by decide, by decide⟩
  · exact ⟨3, by decide, by decide⟩
  · exact ⟨7, by decide, by decide⟩
  · exact ⟨11, by decide, by decide⟩
  · exact ⟨15, by decide, by decide⟩
