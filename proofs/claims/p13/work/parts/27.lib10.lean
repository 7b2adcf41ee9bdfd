theorem lt9r {r : Nat} (hr : r ≤ 9) (c : ¬ nI r = 9) : r < 9 := by
  rcases Nat.lt_or_ge r 9 with q | q
  · exact q
  · have : r = 9 := by omega
    subst this
    exact absurd rfl c
theorem and3_ge {w : Nat} (hw : w < 32) (c : nI w &&& 3 = 3) : 3 ≤ w := by
  have : ∀ w, w < 32 → nI w &&& 3 = 3 → 3 ≤ w := by decide +kernel
  exact this w hw c
theorem or3 {w : Nat} (hw : w < 32) : ∃ w2, w2 < 32 ∧ 3 ≤ w2 ∧ nI w ||| 3 = nI w2 := by
  have : ∀ w, w < 32 → ((w ||| 3) < 32 ∧ 3 ≤ (w ||| 3)) ∧ nI w ||| 3 = nI (w ||| 3) := by decide +kernel
  exact ⟨w ||| 3, (this w hw).1.1, (this w hw).1.2, (this w hw).2⟩
theorem ab_2 {w k : Nat} (h : w < 2 ^ k) (hw : 3 ≤ w) : 2 ≤ k := by
  rcases (show k = 0 ∨ k = 1 ∨ 2 ≤ k by omega) with rfl | rfl | q
  · omega
  · omega
  · exact q
theorem ab_4 {w k : Nat} (h : k = 0 ∨ 2 ^ (k - 1) ≤ w) (hw : w < 2 ^ 4) (h5 : k ≤ 5) : k ≤ 4 := by
  rcases (show k ≤ 4 ∨ k = 5 by omega) with q | rfl
  · exact q
  · rcases h with h | h
    · omega
    · omega
theorem MRI_add {ro re rn rg g2 : Nat → Int32} {r o q w : Nat} (h : MRI ro re rn rg r) (ho : o < 3) (hq1 : 1 ≤ q) (hq3 : q ≤ 3) (hw2 : 2 ≤ w) (hw4 : w ≤ 4) (h1 : ∀ j, j < q → EV 4 (g2 (3 * r + j))) (h2 : ∀ j, j < 3 * r → g2 j = rg j) : MRI (upd ro r (nI o)) (upd re r (nI q)) (upd rn r (nI w)) g2 (r + 1) := fun j hj => by
  by_cases h9 : j = r
  · subst h9
    rw [pk_us, pk_us, pk_us]
    exact ⟨⟨o, ho, rfl⟩, q, hq1, hq3, rfl, ⟨w, hw2, hw4, rfl⟩, h1⟩
  · rw [pk_un h9, pk_un h9, pk_un h9]
    obtain ⟨a, e, b1, b2, b3, b4, b5⟩ := h j (by omega)
    exact ⟨a, e, b1, b2, b3, b4, fun k hk => by rw [h2 _ (by omega)]; exact b5 k hk⟩
def SHf (f g : Nat → Int32) (k i : Nat) : Prop := ∀ j, j < 9 → g j = if k ≤ j ∧ j < i then f (j + 1) else f j
theorem SHf_0 {f : Nat → Int32} {k : Nat} : SHf f f k k := fun j _ => by rw [if_neg (by omega)]
theorem SHf_s {f g : Nat → Int32} {k i : Nat} (hk : k ≤ i) (hi : i + 1 < 9) (h : SHf f g k i) : SHf f (upd g i (g (i + 1))) k (i + 1) := fun j hj => by
  by_cases h9 : j = i
  · subst h9
    rw [pk_us, h (j + 1) hi, if_neg (by omega), if_pos (by omega)]
  · rw [pk_un h9, h j hj]
    by_cases h8 : k ≤ j ∧ j < i
    · rw [if_pos h8, if_pos (by omega)]
    · rw [if_neg h8, if_neg (by omega)]
def SH3 (f g : Nat → Int32) (k i : Nat) : Prop := ∀ j, j < 27 → g j = if 3 * k ≤ j ∧ j < 3 * i then f (j + 3) else f j
theorem SH3_0 {f : Nat → Int32} {k : Nat} : SH3 f f k k := fun j _ => by rw [if_neg (by omega)]
theorem SH3_u {f g : Nat → Int32} {a b : Nat} (ha : a ≤ b) (hb : b + 3 < 27) (h : ∀ j, j < 27 → g j = if a ≤ j ∧ j < b then f (j + 3) else f j) : ∀ j, j < 27 → upd g b (g (b + 3)) j = if a ≤ j ∧ j < b + 1 then f (j + 3) else f j := fun j hj => by
  by_cases h9 : j = b
  · subst h9
    rw [pk_us, h (j + 3) hb, if_neg (by omega), if_pos (by omega)]
  · rw [pk_un h9, h j hj]
    by_cases h8 : a ≤ j ∧ j < b
    · rw [if_pos h8, if_pos (by omega)]
    · rw [if_neg h8, if_neg (by omega)]
theorem SH3_s {f g : Nat → Int32} {k i : Nat} (hk : k ≤ i) (hi : i + 1 < 9) (h : SH3 f g k i) : SH3 f (upd (upd (upd g (3 * i + 0) (g (3 * i + 3 + 0))) (3 * i + 1) (upd g (3 * i + 0) (g (3 * i + 3 + 0)) (3 * i + 3 + 1))) (3 * i + 2) (upd (upd g (3 * i + 0) (g (3 * i + 3 + 0))) (3 * i + 1) (upd g (3 * i + 0) (g (3 * i + 3 + 0)) (3 * i + 3 + 1)) (3 * i + 3 + 2))) k (i + 1) := by
  have h1 := SH3_u (a := 3 * k) (b := 3 * i) (by omega) (by omega) h
  have h2 := SH3_u (a := 3 * k) (b := 3 * i + 1) (by omega) (by omega) h1
  have h3 := SH3_u (a := 3 * k) (b := 3 * i + 1 + 1) (by omega) (by omega) h2
  intro j hj
  have e := h3 j hj
  rw [show 3 * (i + 1) = 3 * i + 1 + 1 + 1 by omega]
  exact e
theorem MRI_drop {ro re rn rg a b c g : Nat → Int32} {r k : Nat} (h : MRI ro re rn rg r) (hr : r ≤ 9) (hk : k < r) (h1 : SHf ro a k (r - 1)) (h2 : SHf re b k (r - 1)) (h3 : SHf rn c k (r - 1)) (h4 : SH3 rg g k (r - 1)) : MRI a b c g (r - 1) := fun j hj => by
  rw [h1 j (by omega), h2 j (by omega), h3 j (by omega)]
  by_cases h8 : k ≤ j ∧ j < r - 1
  · rw [if_pos h8, if_pos h8, if_pos h8]
    obtain ⟨x, e, b1, b2, b3, b4, b5⟩ := h (j + 1) (by omega)
    refine ⟨x, e, b1, b2, b3, b4, fun q hq => ?_⟩
    rw [h4 _ (by omega), if_pos (by omega), show 3 * j + q + 3 = 3 * (j + 1) + q by omega]
    exact b5 q hq
  · rw [if_neg h8, if_neg h8, if_neg h8]
    obtain ⟨x, e, b1, b2, b3, b4, b5⟩ := h j (by omega)
    refine ⟨x, e, b1, b2, b3, b4, fun q hq => ?_⟩
    rw [h4 _ (by omega), if_neg (by omega)]
    exact b5 q hq
theorem sw_2 (x : Int32) : x = 0 ∨ x = 1 ∨ x = 2 ∨ (x.toInt < 0 ∨ 2 < x.toInt) := by
  simp only [← Int32.toInt_inj]
  have h0 : (0 : Int32).toInt = 0 := by decide
  have h1 : (1 : Int32).toInt = 1 := by decide
  have h2 : (2 : Int32).toInt = 2 := by decide
  omega
theorem sw2_ge {w : Nat} (hw : w < 3 ∨ (10 ≤ w ∧ w ≤ 12)) (c : (nI w).toInt < 0 ∨ 2 < (nI w).toInt) : 10 ≤ w := by
  rw [nI_toInt (by omega)] at c
  omega
