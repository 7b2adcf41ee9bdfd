theorem NR.of {z : Nat → Int32} {r : Int32} (h : NR z r) (c : ¬ r = -1) : ∃ k, k < 96 ∧ r = nI k ∧ z k = 0 := by
  rcases h with h | h
  · exact absurd h c
  · exact h
theorem opn_y {p : Int32} (h : ¬ opn p = 0) : ∃ a, a < 3 ∧ p = nI a := by
  unfold opn at h
  by_cases h1 : p < 0
  · rw [if_pos h1] at h; exact absurd rfl h
  · rw [if_neg h1] at h
    by_cases h2 : 3 ≤ p
    · rw [if_pos h2] at h; exact absurd rfl h
    · obtain ⟨j, hj, e⟩ := nI_of h1
      refine ⟨j, ?_, e⟩
      rw [e] at h2
      exact nleN (a := 3) hj (by omega) h2
theorem rng16 {p : Int32} (h1 : ¬ p < 0) (h2 : ¬ 16 ≤ p) : ∃ b, b < 16 ∧ p = nI b := by
  obtain ⟨j, hj, e⟩ := nI_of h1
  refine ⟨j, ?_, e⟩
  rw [e] at h2
  exact nleN (a := 16) hj (by omega) h2
