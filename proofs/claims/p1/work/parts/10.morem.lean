theorem wi_neg (x : Int32) : (if x < 0 then (0 : Int32) else if (-1) < x then 0 else 1) = 0 := by
  by_cases h : x < 0
  · rw [if_pos h]
  · rw [if_neg h, if_pos]
    simp only [Int32.lt_iff_toInt_lt] at h ⊢
    rw [show (0 : Int32).toInt = 0 from by decide] at h
    rw [show (-1 : Int32).toInt = -1 from by decide]
    omega
theorem wi_ok {a : Nat} (h : a < 3) : (if nI a < 0 then (0 : Int32) else if 2 < nI a then 0 else 1) = 1 := by
  rw [if_neg (nI_pos (by omega)), if_neg (show ¬ (2 : Int32) < nI a from nI_nlt (a := 2) (by omega) (by omega))]
theorem wi_ok15 {a : Nat} (h : a < 16) : (if nI a < 0 then (0 : Int32) else if 15 < nI a then 0 else 1) = 1 := by
  rw [if_neg (nI_pos (by omega)), if_neg (show ¬ (15 : Int32) < nI a from nI_nlt (a := 15) (by omega) (by omega))]
theorem lt_3 (x : Int32) : 2 < x ↔ 3 ≤ x := by
  simp only [Int32.lt_iff_toInt_lt, Int32.le_iff_toInt_le]
  rw [show (2 : Int32).toInt = 2 from by decide, show (3 : Int32).toInt = 3 from by decide]
  omega
theorem lt_16 (x : Int32) : 15 < x ↔ 16 ≤ x := by
  simp only [Int32.lt_iff_toInt_lt, Int32.le_iff_toInt_le]
  rw [show (15 : Int32).toInt = 15 from by decide, show (16 : Int32).toInt = 16 from by decide]
  omega
theorem wi_bad {x : Int32} (h : x < 0 ∨ 3 ≤ x) : (if x < 0 then (0 : Int32) else if 2 < x then 0 else 1) = 0 := by
  rcases h with h | h
  · rw [if_pos h]
  · by_cases h2 : x < 0
    · rw [if_pos h2]
    · rw [if_neg h2, if_pos ((lt_3 x).mpr h)]
theorem itz0 {p q : Prop} [Decidable p] [Decidable q] {a b : Int32} (h : (if p then (0 : Int32) else if q then 0 else 1) = 0) : a = if p then a else if q then a else b := by
  by_cases h1 : p
  · rw [if_pos h1]
  · by_cases h2 : q
    · rw [if_neg h1, if_pos h2]
    · rw [if_neg h1, if_neg h2] at h
      exact absurd h (by decide)
theorem itz1 {p q : Prop} [Decidable p] [Decidable q] {a b : Int32} (h : ¬ (if p then (0 : Int32) else if q then 0 else 1) = 0) : b = if p then a else if q then a else b := by
  by_cases h1 : p
  · rw [if_pos h1] at h
    exact absurd rfl h
  · by_cases h2 : q
    · rw [if_neg h1, if_pos h2] at h
      exact absurd rfl h
    · rw [if_neg h1, if_neg h2]
theorem itzn {p q : Prop} [Decidable p] [Decidable q] (h : ¬ (if p then (0 : Int32) else if q then 0 else 1) = 0) : ¬ p ∧ ¬ q := by
  by_cases h1 : p
  · rw [if_pos h1] at h
    exact absurd rfl h
  · by_cases h2 : q
    · rw [if_neg h1, if_pos h2] at h
      exact absurd rfl h
    · exact ⟨h1, h2⟩
theorem out_abs {x y : Int32} (h1 : ¬ (if x < 0 then (0 : Int32) else if 15 < x then 0 else 1) = 0) (h2 : ¬ (if y < 0 then (0 : Int32) else if 1 < y then 0 else 1) = 0) (h : (x < 0 ∨ 16 ≤ x) ∨ (y < 0 ∨ ¬ y ≤ 1)) : False := by
  obtain ⟨a1, a2⟩ := itzn h1
  obtain ⟨b1, b2⟩ := itzn h2
  rcases h with (h | h) | (h | h)
  · exact a1 h
  · exact a2 ((lt_16 x).mpr h)
  · exact b1 h
  · exact b2 (Int32.not_le.mp h)
def Lm (f : Nat → Int64) (g : Nat → Int32) : Prop := (∀ j, j < 48 → f j = 1152921504606846976) ∧ ∀ j, j < 48 → g j = -1
def LMt (v : Int32) (f : Nat → Int64) (g : Nat → Int32) : Prop := v = 0 ∨ (v = 1 ∧ Lm f g)
theorem ge48 {i : Nat} (hi : i < 80) (h : ¬ nI i < 48) : 48 ≤ i := by
  rcases Nat.lt_or_ge i 48 with q | q
  · exact absurd (nI_lt (b := 48) q (by decide)) h
  · exact q
theorem ul48a {g : Nat → Int64} {i : Nat} (hg : ∀ j, j < i → j < 48 → g j = 1152921504606846976) : ∀ j, j < i + 1 → j < 48 → vp_updL g i 1152921504606846976 j = 1152921504606846976 := fun j hj h48 => by
  by_cases h9 : j = i
  · subst h9; exact pk_uLs
  · rw [pk_uLn h9]; exact hg j (by omega) h48
theorem ul48b {g : Nat → Int64} {i : Nat} {x : Int64} (hg : ∀ j, j < i → j < 48 → g j = 1152921504606846976) (h : 48 ≤ i) : ∀ j, j < i + 1 → j < 48 → vp_updL g i x j = 1152921504606846976 := fun j hj h48 => by
  rw [pk_uLn (by omega)]; exact hg j (by omega) h48
