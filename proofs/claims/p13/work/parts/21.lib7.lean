theorem and32 {x : Nat} (hx : x < 32) (y : Int32) : ∃ k, k < 32 ∧ nI x &&& y = nI k := by
  have h : (nI x &&& y).toBitVec = (nI x).toBitVec &&& y.toBitVec := rfl
  refine ⟨(nI x &&& y).toBitVec.toNat, ?_, ?_⟩
  · rw [h, BitVec.toNat_and]
    refine Nat.lt_of_le_of_lt Nat.and_le_left ?_
    have : (nI x).toBitVec.toNat = x % 2 ^ 32 := rfl
    rw [this]
    omega
  · apply Int32.toBitVec_inj.mp
    show (nI x &&& y).toBitVec = BitVec.ofNat 32 (nI x &&& y).toBitVec.toNat
    rw [BitVec.ofNat_toNat, BitVec.setWidth_eq]
def SDn (n : Nat) (s : Nat → Int32) : Prop := ∀ j, j < n → ∃ w, w < 5 ∧ s j = nI w
theorem SDn_s {n w : Nat} {s : Nat → Int32} (h : SDn n s) (hw : w < 5) : SDn (n + 1) (upd s n (nI w)) := fun j hj => by
  by_cases h9 : j = n
  · subst h9; exact ⟨w, hw, pk_us⟩
  · rw [pk_un h9]; exact h j (by omega)
theorem SDn_k {n k : Nat} {x : Int32} {s : Nat → Int32} (h : SDn n s) (hk : n ≤ k) : SDn n (upd s k x) := fun j hj => by
  rw [pk_un (by omega)]; exact h j hj
theorem SDn_le {n k : Nat} {s : Nat → Int32} (h : SDn n s) (hk : k ≤ n) : SDn k s := fun j hj => h j (by omega)
theorem SDn_0 {s : Nat → Int32} : SDn 0 s := fun j hj => absurd hj (by omega)
theorem or01 {a b : Int32} (ha : a = 0 ∨ a = 1) (hb : b = 0 ∨ b = 1) : a ||| b = 0 ∨ a ||| b = 1 := by
  rcases ha with rfl | rfl <;> rcases hb with rfl | rfl
  · exact Or.inl (by decide)
  · exact Or.inr (by decide)
  · exact Or.inr (by decide)
  · exact Or.inr (by decide)
/-- where a rule's edges go -/
def FT (x2 x3 x4 : Nat → Int32) : Prop := ∀ j, j < 3 → ¬ x4 j = 5 → (∃ q, q < 4 ∧ x2 j = nI q) ∧ ∃ q, q < 4 ∧ x3 j = nI q
theorem pow_le5 {v : Nat} (h : v ≤ 5) : 2 ^ v ≤ 32 := Nat.le_trans (Nat.pow_le_pow_right (by decide) h) (by decide)
theorem pow_ge1 {v : Nat} : 1 ≤ 2 ^ v := Nat.one_le_two_pow
