theorem ltN {a b : Nat} (hb : b < 2147483648) (ha : a < 2147483648) (h : nI a < nI b) : a < b := (nI_ltI ha hb).mp h
theorem nltN {a b : Nat} (hb : b < 2147483648) (ha : a < 2147483648) (h : ¬ nI a < nI b) : b ≤ a := by
  rcases Nat.lt_or_ge a b with q | q
  · exact absurd (nI_lt q hb) h
  · exact q
def letOK (p : Int32) (z : Nat) : Prop := ¬ p < 32 ∧ p ≤ 126 ∧ nI z < 16
theorem nd_ge (pf : Nat → Int32) (z : Nat) : 2 ≤ ndN pf z := by unfold ndN; omega
theorem nd_le (pf : Nat → Int32) (z : Nat) : ndN pf z ≤ 5 := by
  unfold ndN
  repeat' split
  all_goals omega
theorem cL_rng {c : Int32} (h : ¬ cL c < 0) : ∃ q, q < 5 ∧ cL c = nI q := by
  unfold cL at h ⊢
  by_cases h1 : c < 65
  · rw [if_pos h1] at h ⊢
    by_cases h2 : c = 97
    · rw [if_pos h2]; exact ⟨3, by decide, rfl⟩
    · rw [if_neg h2] at h ⊢
      by_cases h3 : c = 98
      · rw [if_pos h3]; exact ⟨4, by decide, rfl⟩
      · rw [if_neg h3] at h; exact absurd (by decide) h
  · rw [if_neg h1] at h ⊢
    by_cases h4 : 67 < c
    · rw [if_pos h4] at h ⊢
      by_cases h2 : c = 97
      · rw [if_pos h2]; exact ⟨3, by decide, rfl⟩
      · rw [if_neg h2] at h ⊢
        by_cases h3 : c = 98
        · rw [if_pos h3]; exact ⟨4, by decide, rfl⟩
        · rw [if_neg h3] at h; exact absurd (by decide) h
    · rw [if_neg h4]
      have hc : 0 ≤ c.toInt := by
        simp only [Int32.lt_iff_toInt_lt] at h1
        rw [show (65 : Int32).toInt = 65 from by decide] at h1
        omega
      obtain ⟨j, hj, e⟩ := nI_of (x := c) (by simp only [Int32.lt_iff_toInt_lt]; rw [show (0 : Int32).toInt = 0 from by decide]; omega)
      subst e
      have a1 := nltN (b := 65) (a := j) (by omega) hj h1
      have a2 := nltN (a := 67) (b := j) hj (by omega) h4
      exact ⟨j - 65, by omega, pk_sub (a := j) (b := 65) a1⟩
theorem dg_rng {c : Int32} (h1 : ¬ c < 48) (h2 : ¬ 51 < c) : ∃ q, q < 4 ∧ c - 48 = nI q := by
  obtain ⟨j, hj, e⟩ := nI_of (x := c) (fun q => h1 (by
    simp only [Int32.lt_iff_toInt_lt] at q ⊢
    rw [show (0 : Int32).toInt = 0 from by decide] at q
    rw [show (48 : Int32).toInt = 48 from by decide]
    omega))
  subst e
  have a1 := nltN (b := 48) (a := j) (by omega) hj h1
  have a2 := nltN (a := 51) (b := j) hj (by omega) h2
  exact ⟨j - 48, by omega, pk_sub (a := j) (b := 48) a1⟩
theorem iW_y {h z : Nat} (c : ¬ iW h z = 0) : h < z ∧ (z - h) % 3 = 0 := by
  unfold iW at c
  by_cases q : h < z ∧ (z - h) % 3 = 0
  · exact q
  · rw [if_neg q] at c; exact absurd rfl c
theorem ro_z {pf : Nat → Int32} {z : Nat} (h : RuleOK pf z) : 2 < z ∧ (z - 2) % 3 = 0 ∧ z ≤ 11 := by
  obtain ⟨a, b⟩ := iW_y h.1
  have := (h.2.1.2.1 (z - 1) (by omega)).1
  exact ⟨a, b, by omega⟩
theorem go_z {pf : Nat → Int32} {z : Nat} (h : GraphOK pf z) : 0 < z ∧ z % 3 = 0 ∧ z ≤ 15 := by
  obtain ⟨a, b⟩ := iW_y h.1
  have := (h.2.1.2.1 (z - 1) (by omega)).1
  exact ⟨a, b, by omega⟩
theorem ro_l {pf : Nat → Int32} {z : Nat} (h : RuleOK pf z) : ¬ opn (cL (pf 0)) = 0 := by
  have hz := ro_z h
  have h0 := (h.2.1.2.1 0 (by omega)).2
  rw [if_pos (show (0 : Nat) < 2 from by decide), fH, if_pos (show nI 0 = 0 from rfl)] at h0
  exact h0
theorem opn_n {x : Int32} (h : ¬ opn x = 0) : ¬ x < 0 := fun q => h (by rw [opn, if_pos q])
theorem ro_e {pf : Nat → Int32} {z j : Nat} (h : RuleOK pf z) (hj : j < (z - 2) / 3) : (¬ cL (pf (2 + 3 * j)) < 0) ∧ (∃ q, q < 4 ∧ pf (2 + 3 * j + 1) - 48 = nI q) ∧ ∃ q, q < 4 ∧ pf (2 + 3 * j + 2) - 48 = nI q := by
  have hz := ro_z h
  have e0 := (h.2.1.2.1 (2 + 3 * j) (by omega)).2
  have e1 := (h.2.1.2.1 (2 + 3 * j + 1) (by omega)).2
  have e2 := (h.2.1.2.1 (2 + 3 * j + 2) (by omega)).2
  rw [if_neg (by omega)] at e0 e1 e2
  rw [show (2 + 3 * j - 2) % 3 = 0 by omega] at e0
  rw [show (2 + 3 * j + 1 - 2) % 3 = 1 by omega] at e1
  rw [show (2 + 3 * j + 2 - 2) % 3 = 2 by omega] at e2
  unfold fE0 at e0 e1 e2
  rw [if_pos (show nI 0 = 0 from rfl)] at e0
  rw [if_neg (show ¬ nI 1 = 0 from by decide)] at e1
  rw [if_neg (show ¬ nI 2 = 0 from by decide)] at e2
  refine ⟨fun q => by rw [if_pos q] at e0; exact e0 rfl, dg_rng (fun q => by rw [if_pos q] at e1; exact e1 rfl) (fun q => ?_), dg_rng (fun q => by rw [if_pos q] at e2; exact e2 rfl) (fun q => ?_)⟩
  · by_cases w : pf (2 + 3 * j + 1) < 48
    · rw [if_pos w] at e1; exact e1 rfl
    · rw [if_neg w, if_pos q] at e1; exact e1 rfl
  · by_cases w : pf (2 + 3 * j + 2) < 48
    · rw [if_pos w] at e2; exact e2 rfl
    · rw [if_neg w, if_pos q] at e2; exact e2 rfl
theorem RI_new {pf : Nat → Int32} {z : Nat} {t : RT} (h : RuleOK pf z) (ht : RNew pf z t) : RI t := by
  have hz := ro_z h
  obtain ⟨h1, h2, h3, h4, h5, h6, h7⟩ := ht
  refine ⟨?_, ⟨(z - 2) / 3, by omega, by omega, h2⟩, ⟨ndN pf z, nd_ge pf z, nd_le pf z, h3⟩, fun j hj => ?_, fun j hj hn => ?_, h6, h7⟩
  · obtain ⟨o, ho, e⟩ := opn_y (ro_l h)
    exact ⟨o, ho, by rw [h1]; exact e⟩
  · rw [h5 j hj, slv]
    by_cases q : hs (nI j) ((z - 2) / 3) = 0
    · rw [if_pos q]; exact ⟨5, by decide, rfl⟩
    · rw [if_neg q]
      obtain ⟨i, hi, e⟩ := hs_y (by omega) q
      have := (nI_eq (by omega) (by omega)).mp e
      subst this
      rw [(h4 j hi).1]
      obtain ⟨w, hw, e⟩ := cL_rng (ro_e h hi).1
      exact ⟨w, by omega, e⟩
  · rw [h5 j hj, slv] at hn
    by_cases q : hs (nI j) ((z - 2) / 3) = 0
    · rw [if_pos q] at hn; exact absurd rfl hn
    · obtain ⟨i, hi, e⟩ := hs_y (by omega) q
      have := (nI_eq (by omega) (by omega)).mp e
      subst this
      rw [(h4 j hi).2.1, (h4 j hi).2.2]
      exact (ro_e h hi).2
theorem BI_add {ρ ρ2 : Nat → RT} {r : Nat} {pf : Nat → Int32} {z : Nat} (h : BI ρ r) (hR : RuleOK pf z) (hn : RNew pf z (ρ2 r)) (hk : ∀ k, ¬ k = r → ρ2 k = ρ k) : BI ρ2 (r + 1) := fun j hj => by
  by_cases h9 : j = r
  · subst h9; exact RI_new hR hn
  · rw [hk j h9]; exact h j (by omega)
theorem BI_drop {ρ : Nat → RT} {r k : Nat} (h : BI ρ r) (hk : k < r) : BI (fun j => ρ (sg k r j)) (r - 1) := fun j hj => by
  show RI (ρ (sg k r j))
  apply h
  unfold sg
  split
  · omega
  · split
    · omega
    · split <;> omega
/-- what rule() answers and leaves -/
def RuP (pf : Nat → Int32) (z r : Nat) (ρ : Nat → RT) (a : Int32) (z2 r2 : Nat) (ρ2 : Nat → RT) : Prop := (¬ RuleOK pf z ∧ a = -1003 ∧ z2 = z ∧ r2 = r ∧ ρ2 = ρ) ∨ (RuleOK pf z ∧ ¬ r < 9 ∧ a = -1004 ∧ z2 = z ∧ r2 = r ∧ ρ2 = ρ) ∨ (RuleOK pf z ∧ r < 9 ∧ a = nI r ∧ z2 = 0 ∧ r2 = r + 1 ∧ RNew pf z (ρ2 r) ∧ ∀ k, ¬ k = r → ρ2 k = ρ k)
def DrP (p : Int32) (r : Nat) (ρ : Nat → RT) (a : Int32) (r2 : Nat) (ρ2 : Nat → RT) : Prop := (hs p r = 0 ∧ a = -1001 ∧ r2 = r ∧ ρ2 = ρ) ∨ ∃ k, k < r ∧ p = nI k ∧ a = nI (r - 1) ∧ r2 = r - 1 ∧ ρ2 = fun j => ρ (sg k r j)
/-- the figure's numbers: edges, nodes -/
def FgI (n v : Nat) : Prop := n ≤ 12 ∧ v ≤ 9 ∧ (n = 0 ∨ 2 ≤ v)
def GrP (pf : Nat → Int32) (z n v : Nat) (x1 x2 x3 : Nat → Int32) (a : Int32) (z2 n2 v2 : Nat) (y1 y2 y3 : Nat → Int32) : Prop := (¬ GraphOK pf z ∧ a = -1003 ∧ z2 = z ∧ n2 = n ∧ v2 = v ∧ y1 = x1 ∧ y2 = x2 ∧ y3 = x3) ∨ (GraphOK pf z ∧ a = nI (z / 3) ∧ z2 = 0 ∧ n2 = z / 3 ∧ v2 = ndN pf z ∧ edT pf 0 (z / 3) y1 y2 y3)
theorem GrP.fg {pf : Nat → Int32} {z n v : Nat} {x1 x2 x3 : Nat → Int32} {a : Int32} {z2 n2 v2 : Nat} {y1 y2 y3 : Nat → Int32} (h : GrP pf z n v x1 x2 x3 a z2 n2 v2 y1 y2 y3) (hf : FgI n v) : FgI n2 v2 := by
  rcases h with ⟨-, -, -, rfl, rfl, -⟩ | ⟨h, -, -, rfl, rfl, -⟩
  · exact hf
  · have := go_z h
    exact ⟨by omega, by have := nd_le pf z; omega, Or.inr (nd_ge pf z)⟩
theorem isD_v {x : Nat → Int32} {n v : Nat} (hf : FgI n v) (c : ¬ isD x n = 0) : 1 ≤ v := by
  rcases hf.2.2 with h | h
  · subst h
    rw [isD, if_pos (by decide)] at c
    exact absurd rfl c
  · omega
