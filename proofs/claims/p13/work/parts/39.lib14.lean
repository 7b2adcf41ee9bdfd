theorem EVx {y : Int32} (h : EV 4 y) : ∃ x, x < 500 ∧ x / 10 % 10 < 4 ∧ x % 10 < 4 ∧ y = nI x := by
  obtain ⟨w, a, b, h1, h2, h3, e⟩ := h
  exact ⟨100 * w + 10 * a + b, by omega, by omega, by omega, e⟩
theorem and_le_r {x : Nat} (hx : x < 2147483648) (y : Int32) : ∃ k, k ≤ x ∧ y &&& nI x = nI k := by
  obtain ⟨k, hk, e⟩ := and_le hx y
  exact ⟨k, hk, by rw [Int32.and_comm]; exact e⟩
theorem SDn_u {n k w : Nat} {s : Nat → Int32} (h : SDn n s) (hw : w < 5) : SDn n (upd s k (nI w)) := fun j hj => by
  by_cases h9 : j = k
  · subst h9; exact ⟨w, hw, pk_us⟩
  · rw [pk_un h9]; exact h j hj
theorem sq1 {v : Nat} (h : 1 ≤ v) : 1 ≤ v * v := Nat.mul_le_mul h h
theorem sq2 {v : Nat} (h : 1 ≤ v) : v ≤ v * v := by
  have := Nat.mul_le_mul h (Nat.le_refl v)
  rwa [Nat.one_mul] at this
theorem sq_div {t v : Nat} (h : t < v * v) (h5 : v ≤ 5) : t / v < 5 := Nat.lt_of_lt_of_le (Nat.div_lt_of_lt_mul h) h5
theorem sq_mod {t v : Nat} (h : 1 ≤ v) (h5 : v ≤ 5) : t % v < 5 := Nat.lt_of_lt_of_le (Nat.mod_lt t h) h5
theorem sq_25 {v : Nat} (h5 : v ≤ 5) : v * v ≤ 25 := Nat.mul_le_mul h5 h5
theorem nI_n0 {v : Nat} (h : 1 ≤ v) (h5 : v ≤ 5) : ¬ nI v = 0 := fun q => by
  have := (nI_eq (a := v) (b := 0) (by omega) (by decide)).mp q
  omega
