theorem hs_ok {k n : Nat} (h : k < n) (hn : n < 1000) : hs (nI k) n = 1 := by
  rw [hs, if_neg (nI_pos (by omega)), if_neg (nI_ge h (by omega))]
theorem dec1 {i : Nat} (h : 1 ≤ i) : nI i + Int32.ofInt (-1) = nI (i - 1) := by
  obtain ⟨k, rfl⟩ : ∃ k, i = k + 1 := ⟨i - 1, by omega⟩
  exact pk_m1 k
def slv (y1 : Nat → Int32) (e j : Nat) : Int32 := if hs (nI j) e = 0 then 5 else y1 j
theorem slv_a {y1 : Nat → Int32} {e j : Nat} {g : Nat → Int32} (h : ∀ i, i < j → g i = slv y1 e i) (c : hs (nI j) e = 0) : ∀ i, i < j + 1 → upd g j 5 i = slv y1 e i := fun i hi => by
  by_cases h9 : i = j
  · subst h9
    rw [pk_us, slv, if_pos c]
  · rw [pk_un h9]
    exact h i (by omega)
theorem slv_b {y1 : Nat → Int32} {e j : Nat} {g : Nat → Int32} (h : ∀ i, i < j → g i = slv y1 e i) (c : ¬ hs (nI j) e = 0) : ∀ i, i < j + 1 → upd g j (y1 j) i = slv y1 e i := fun i hi => by
  by_cases h9 : i = j
  · subst h9
    rw [pk_us, slv, if_neg c]
  · rw [pk_un h9]
    exact h i (by omega)
theorem lt4_s {g : Nat → Int32} {i : Nat} {x : Int32} (h : ∀ j, j < i → lt4 (g j)) (hx : lt4 x) : ∀ j, j < i + 1 → lt4 (upd g i x j) := fun j hj => by
  by_cases h9 : j = i
  · subst h9; rw [pk_us]; exact hx
  · rw [pk_un h9]; exact h j (by omega)
theorem and3 (x : Int32) : lt4 (x &&& 3) := by
  have h : (x &&& 3).toBitVec = x.toBitVec &&& (3 : Int32).toBitVec := rfl
  refine ⟨(x &&& 3).toBitVec.toNat, ?_, ?_⟩
  · rw [h, BitVec.toNat_and]
    exact Nat.lt_of_le_of_lt Nat.and_le_right (by decide)
  · apply Int32.toBitVec_inj.mp
    show (x &&& 3).toBitVec = BitVec.ofNat 32 (x &&& 3).toBitVec.toNat
    rw [BitVec.ofNat_toNat, BitVec.setWidth_eq]
theorem k3 {a b c : Int32} (ha : lt4 a) (hb : lt4 b) (hc : lt4 c) : ∃ k, k < 64 ∧ (a ||| (b <<< (2 &&& 31))) ||| (c <<< (4 &&& 31)) = nI k := by
  obtain ⟨i, hi, rfl⟩ := ha
  obtain ⟨j, hj, rfl⟩ := hb
  obtain ⟨k, hk, rfl⟩ := hc
  refine ⟨i + 4 * j + 16 * k, by omega, ?_⟩
  rcases (show i = 0 ∨ i = 1 ∨ i = 2 ∨ i = 3 by omega) with rfl | rfl | rfl | rfl <;> rcases (show j = 0 ∨ j = 1 ∨ j = 2 ∨ j = 3 by omega) with rfl | rfl | rfl | rfl <;> rcases (show k = 0 ∨ k = 1 ∨ k = 2 ∨ k = 3 by omega) with rfl | rfl | rfl | rfl <;> decide
theorem k2r {a b : Int32} (ha : lt4 a) (hb : lt4 b) : ∃ k, k < 16 ∧ a ||| (b <<< (2 &&& 31)) = nI k := by
  obtain ⟨i, hi, rfl⟩ := ha
  obtain ⟨j, hj, rfl⟩ := hb
  refine ⟨i + 4 * j, by omega, ?_⟩
  rcases (show i = 0 ∨ i = 1 ∨ i = 2 ∨ i = 3 by omega) with rfl | rfl | rfl | rfl <;> rcases (show j = 0 ∨ j = 1 ∨ j = 2 ∨ j = 3 by omega) with rfl | rfl | rfl | rfl <;> decide
def lt16 (r : Int32) : Prop := ∃ k, k < 16 ∧ r = nI k
