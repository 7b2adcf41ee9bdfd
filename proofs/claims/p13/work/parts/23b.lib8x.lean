def GrS (pf : Nat → Int32) (z : Nat) (s1 s3 a b : Int32) : Prop := (¬ GraphOK pf z ∧ a = s1 ∧ b = s3) ∨ (GraphOK pf z ∧ a = 0 ∧ b = s3 + 1)
/-- what of() answers -/
def COf (p0 p1 : Int32) (r : Nat) (ρ : Nat → RT) (a : Int32) : Prop :=
  (hs p0 r = 0 ∧ a = -1001) ∨ ∃ j, j < r ∧ p0 = nI j ∧ ((p1 = 0 ∧ a = (ρ j).2.1.1) ∨ (p1 = 1 ∧ a = (ρ j).2.1.2.1) ∨ (p1 = 2 ∧ a = (ρ j).2.1.2.2) ∨ ((¬ p1 = 0 ∧ ¬ p1 = 1 ∧ ¬ p1 = 2 ∧ (p1 < 10 ∨ ¬ p1 < 13)) ∧ a = -1002) ∨
    (¬ p1 < 10 ∧ p1 < 13 ∧ ∃ e, (e ≤ 3 ∧ (ρ j).2.1.2.1 = nI e) ∧ ((hs (p1 - 10) e = 0 ∧ a = -1) ∨ ∃ i, i < e ∧ p1 - 10 = nI i ∧ a = ((100 * ((ρ j).2.2.1 i)) + (10 * ((ρ j).2.2.2.1 i))) + ((ρ j).2.2.2.2.1 i))))
/-- what step() answers and leaves -/
def CStP (p0 p1 : Int32) (r n v : Nat) (g1 g2 g3 : Nat → Int32) (ρ : Nat → RT) (s1 s2 a : Int32) (n2 v2 : Nat) (y1 y2 y3 : Nat → Int32) (s12 s22 : Int32) : Prop :=
  ((hs p0 n = 0 ∨ hs p1 r = 0) ∧ a = -1001 ∧ n2 = n ∧ v2 = v ∧ y1 = g1 ∧ y2 = g2 ∧ y3 = g3 ∧ s12 = s1 ∧ s22 = s2) ∨
  ∃ j k, j < n ∧ k < r ∧ p0 = nI j ∧ p1 = nI k ∧ ((¬ g1 j = (ρ k).2.1.1 ∧ a = -1003 ∧ n2 = n ∧ v2 = v ∧ y1 = g1 ∧ y2 = g2 ∧ y3 = g3 ∧ s12 = s1 ∧ s22 = s2) ∨
    (g1 j = (ρ k).2.1.1 ∧ ∃ e w, 1 ≤ e ∧ e ≤ 3 ∧ w ≤ 5 ∧ (ρ k).2.1.2.1 = nI e ∧ (ρ k).2.1.2.2 = nI w ∧ (((12 < n + (e - 1) ∨ 9 < v + w - 2) ∧ a = -1004 ∧ n2 = n ∧ v2 = v ∧ y1 = g1 ∧ y2 = g2 ∧ y3 = g3 ∧ s12 = s1 ∧ s22 = s2) ∨
      (n + (e - 1) ≤ 12 ∧ v + w - 2 ≤ 9 ∧ a = nI (n + (e - 1)) ∧ n2 = n + (e - 1) ∧ v2 = v + (w - 2) ∧ s12 = s1 + 1 ∧ s22 = s2 + 1 ∧ RPL g1 (ρ k).2.2.1 y1 j e n ∧ RPL g2 (fun t => nC v ((ρ k).2.2.2.1 t) (g2 j) (g3 j)) y2 j e n ∧ RPL g3 (fun t => nC v ((ρ k).2.2.2.2.1 t) (g2 j) (g3 j)) y3 j e n))))
