theorem max0 {x : Int32} (h : ¬ x < 0) : (if 0 < x then x else 0) = x := by
  by_cases h1 : 0 < x
  · rw [if_pos h1]
  · rw [if_neg h1]
    simp only [Int32.lt_iff_toInt_lt] at h h1
    rw [show (0 : Int32).toInt = 0 from by decide] at h h1
    rw [← Int32.toInt_inj, show (0 : Int32).toInt = 0 from by decide]
    omega
def hs (p : Int32) (n : Nat) : Int32 := if p < 0 then 0 else if nI n ≤ p then 0 else 1
theorem hs_y {p : Int32} {n : Nat} (hn : n < 1000) (h : ¬ hs p n = 0) : ∃ j, j < n ∧ p = nI j := by
  unfold hs at h
  by_cases h1 : p < 0
  · rw [if_pos h1] at h; exact absurd rfl h
  · rw [if_neg h1] at h
    by_cases h2 : nI n ≤ p
    · rw [if_pos h2] at h; exact absurd rfl h
    · obtain ⟨j, hj, e⟩ := nI_of h1
      refine ⟨j, ?_, e⟩
      rw [e] at h2
      exact nleN (by omega) (by omega) h2
def opE (x : Nat → Int32) : Nat → Int32
  | 0 => 0
  | i + 1 => if opn (x i) = 0 then opE x i + 0 else opE x i + 1
theorem opE_a {x : Nat → Int32} {i : Nat} (h : opn (x i) = 0) : opE x (i + 1) = opE x i + 0 := by rw [opE, if_pos h]
theorem opE_b {x : Nat → Int32} {i : Nat} (h : ¬ opn (x i) = 0) : opE x (i + 1) = opE x i + 1 := by rw [opE, if_neg h]
def isD (x : Nat → Int32) (n : Nat) : Int32 := if nI n ≤ 0 then 0 else if opE x n = 0 then 1 else 0
def lt4 (r : Int32) : Prop := ∃ k, k < 4 ∧ r = nI k
theorem lt4_or1 {r : Int32} (h : lt4 r) : lt4 (r ||| 1) := by
  obtain ⟨k, hk, rfl⟩ := h
  rcases (show k = 0 ∨ k = 1 ∨ k = 2 ∨ k = 3 by omega) with rfl | rfl | rfl | rfl
  · exact ⟨1, by decide, by decide⟩
  · exact ⟨1, by decide, by decide⟩
  · exact ⟨3, by decide, by decide⟩
  · exact ⟨3, by decide, by decide⟩
theorem lt4_or2 {r : Int32} (h : lt4 r) : lt4 (r ||| 2) := by
  obtain ⟨k, hk, rfl⟩ := h
  rcases (show k = 0 ∨ k = 1 ∨ k = 2 ∨ k = 3 by omega) with rfl | rfl | rfl | rfl
  · exact ⟨2, by decide, by decide⟩
  · exact ⟨3, by decide, by decide⟩
  · exact ⟨2, by decide, by decide⟩
  · exact ⟨3, by decide, by decide⟩
theorem shl1 {v : Nat} (h : v ≤ 9) : (1 : Int32) <<< (nI v &&& 31) = nI (2 ^ v) := by
  rcases (show v = 0 ∨ v = 1 ∨ v = 2 ∨ v = 3 ∨ v = 4 ∨ v = 5 ∨ v = 6 ∨ v = 7 ∨ v = 8 ∨ v = 9 by omega) with rfl | rfl | rfl | rfl | rfl | rfl | rfl | rfl | rfl | rfl <;> decide
theorem pow_le9 {v : Nat} (h : v ≤ 9) : 2 ^ v ≤ 512 := Nat.le_trans (Nat.pow_le_pow_right (by decide) h) (by decide)
theorem pow_half {v : Nat} (h : 1 ≤ v) : 2 ^ v = 2 * 2 ^ (v - 1) := by
  rw [← Nat.pow_succ']
  congr 1
  omega
theorem inc2 (q : Nat) : nI (2 * q) + Int32.ofInt 2 = nI (2 * (q + 1)) := nI_add (2 * q) 2
theorem inc3 (a k : Nat) : nI (a + 3 * k) + Int32.ofInt 3 = nI (a + 3 * (k + 1)) := nI_add (a + 3 * k) 3
def ndN (pf : Nat → Int32) (z : Nat) : Nat := 2 + (if nmB pf 50 z = 0 then 0 else 1) + (if nmB pf 51 z = 0 then 0 else 1) + (if nmB pf 52 z = 0 then 0 else 1)
/-- the edges of a text that begins at h -/
def edT (pf : Nat → Int32) (h k : Nat) (y1 y2 y3 : Nat → Int32) : Prop := ∀ j, j < k → y1 j = cL (pf (h + 3 * j)) ∧ y2 j = pf (h + 3 * j + 1) - 48 ∧ y3 j = pf (h + 3 * j + 2) - 48
theorem edT_0 {pf : Nat → Int32} {h : Nat} {y1 y2 y3 : Nat → Int32} : edT pf h 0 y1 y2 y3 := fun j hj => absurd hj (by omega)
theorem edT_s {pf : Nat → Int32} {h k : Nat} {y1 y2 y3 : Nat → Int32} (H : edT pf h k y1 y2 y3) : edT pf h (k + 1) (upd y1 k (cL (pf (h + 3 * k)))) (upd y2 k (pf (h + 3 * k + 1) - 48)) (upd y3 k (pf (h + 3 * k + 2) - 48)) := fun j hj => by
  by_cases h9 : j = k
  · subst h9
    exact ⟨pk_us, pk_us, pk_us⟩
  · rw [pk_un h9, pk_un h9, pk_un h9]
    exact H j (by omega)
