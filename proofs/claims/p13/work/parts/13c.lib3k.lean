/-! ways and colours of a figure, as the class reckons them -/
def cw1 (y s a b : Int32) : Int32 := if y &&& 1 = 0 then s else if (s >>> (a &&& 31)) &&& 1 = 0 then s else s ||| ((1 : Int32) <<< (b &&& 31))
def cw2 (y s a b : Int32) : Int32 := if y &&& 2 = 0 then s else if (s >>> (b &&& 31)) &&& 1 = 0 then s else s ||| ((1 : Int32) <<< (a &&& 31))
def cw (y s a b : Int32) : Int32 := cw2 y (cw1 y s a b) a b
theorem cw1_a {y s a b : Int32} (h : y &&& 1 = 0) : cw1 y s a b = s := if_pos h
theorem cw1_b {y s a b : Int32} (h : ¬ y &&& 1 = 0) (h2 : (s >>> (a &&& 31)) &&& 1 = 0) : cw1 y s a b = s := by rw [cw1, if_neg h, if_pos h2]
theorem cw1_c {y s a b : Int32} (h : ¬ y &&& 1 = 0) (h2 : ¬ (s >>> (a &&& 31)) &&& 1 = 0) : cw1 y s a b = s ||| ((1 : Int32) <<< (b &&& 31)) := by rw [cw1, if_neg h, if_neg h2]
theorem cw2_a {y s a b : Int32} (h : y &&& 2 = 0) : cw2 y s a b = s := if_pos h
theorem cw2_b {y s a b : Int32} (h : ¬ y &&& 2 = 0) (h2 : (s >>> (b &&& 31)) &&& 1 = 0) : cw2 y s a b = s := by rw [cw2, if_neg h, if_pos h2]
theorem cw2_c {y s a b : Int32} (h : ¬ y &&& 2 = 0) (h2 : ¬ (s >>> (b &&& 31)) &&& 1 = 0) : cw2 y s a b = s ||| ((1 : Int32) <<< (a &&& 31)) := by rw [cw2, if_neg h, if_neg h2]
/-- all edges once -/
def cwN (d : Int32) (x2 x3 : Nat → Int32) : Nat → Int32 → Int32
  | 0, s => s
  | i + 1, s => cw (d >>> ((nI (2 * i)) &&& 31)) (cwN d x2 x3 i s) (x2 i) (x3 i)
/-- so many rounds -/
def cwR (d : Int32) (x2 x3 : Nat → Int32) (n : Nat) : Nat → Int32 → Int32
  | 0, s => s
  | q + 1, s => cwN d x2 x3 n (cwR d x2 x3 n q s)
theorem cwR_b {d : Int32} {x2 x3 : Nat → Int32} {n q i : Nat} {s s6 se : Int32} (h6 : s6 = cwN d x2 x3 i se) (hi : i = n) (he : se = cwR d x2 x3 n (q - 1) s) (hq : 1 ≤ q) : s6 = cwR d x2 x3 n (q + 1 - 1) s := by
  obtain ⟨k, rfl⟩ : ∃ k, q = k + 1 := ⟨q - 1, by omega⟩
  rw [show k + 1 + 1 - 1 = k + 1 by omega, cwR, h6, hi, he, show k + 1 - 1 = k by omega]
def cmF (a b d : Int32) (x2 x3 : Nat → Int32) (n v : Nat) : Int32 := if (cwR d x2 x3 n (v - 1) ((1 : Int32) <<< (a &&& 31)) >>> (b &&& 31)) &&& 1 = 0 then 0 else 1
def wyF (d : Int32) (x2 x3 : Nat → Int32) (n v : Nat) : Int32 := (if cmF 0 1 d x2 x3 n v = 0 then 0 else 1) ||| (if cmF 1 0 d x2 x3 n v = 0 then 0 else 2)
theorem wy_0 {d : Int32} {x2 x3 : Nat → Int32} {n v : Nat} (h1 : cmF 0 1 d x2 x3 n v = 0) (h2 : cmF 1 0 d x2 x3 n v = 0) : (0 : Int32) = wyF d x2 x3 n v ∧ lt4 (wyF d x2 x3 n v) := by
  rw [wyF, if_pos h1, if_pos h2]; exact ⟨by decide, 0, by decide, by decide⟩
theorem wy_1 {d : Int32} {x2 x3 : Nat → Int32} {n v : Nat} (h1 : ¬ cmF 0 1 d x2 x3 n v = 0) (h2 : cmF 1 0 d x2 x3 n v = 0) : (1 : Int32) = wyF d x2 x3 n v ∧ lt4 (wyF d x2 x3 n v) := by
  rw [wyF, if_neg h1, if_pos h2]; exact ⟨by decide, 1, by decide, by decide⟩
theorem wy_2 {d : Int32} {x2 x3 : Nat → Int32} {n v : Nat} (h1 : cmF 0 1 d x2 x3 n v = 0) (h2 : ¬ cmF 1 0 d x2 x3 n v = 0) : (2 : Int32) = wyF d x2 x3 n v ∧ lt4 (wyF d x2 x3 n v) := by
  rw [wyF, if_pos h1, if_neg h2]; exact ⟨by decide, 2, by decide, by decide⟩
theorem wy_3 {d : Int32} {x2 x3 : Nat → Int32} {n v : Nat} (h1 : ¬ cmF 0 1 d x2 x3 n v = 0) (h2 : ¬ cmF 1 0 d x2 x3 n v = 0) : (3 : Int32) = wyF d x2 x3 n v ∧ lt4 (wyF d x2 x3 n v) := by
  rw [wyF, if_neg h1, if_neg h2]; exact ⟨by decide, 3, by decide, by decide⟩
/-- the colours p are allowed by the bits d -/
def alP (p d : Int32) (x2 x3 : Nat → Int32) (n : Nat) : Prop := ∀ i, i < n → ¬ (d >>> (((nI (2 * i)) + (((p >>> ((x2 i) &&& 31)) ^^^ (p >>> ((x3 i) &&& 31))) &&& 1)) &&& 31)) &&& 1 = 0
theorem alP_s {p d : Int32} {x2 x3 : Nat → Int32} {i : Nat} (h : alP p d x2 x3 i) (h2 : ¬ (d >>> (((nI (2 * i)) + (((p >>> ((x2 i) &&& 31)) ^^^ (p >>> ((x3 i) &&& 31))) &&& 1)) &&& 31)) &&& 1 = 0) : alP p d x2 x3 (i + 1) := fun j hj => by
  by_cases h9 : j = i
  · subst h9; exact h2
  · exact h j (by omega)
/-- which colourings there are among the first q even ones -/
def HUq (d : Int32) (x2 x3 : Nat → Int32) (n q : Nat) (r : Int32) : Prop := ∃ h, h < 4 ∧ r = nI h ∧ (h.testBit 0 = true ↔ ∃ k, k < q ∧ alP (nI (2 * k)) d x2 x3 n ∧ nI (2 * k) &&& 2 = 0) ∧ (h.testBit 1 = true ↔ ∃ k, k < q ∧ alP (nI (2 * k)) d x2 x3 n ∧ ¬ nI (2 * k) &&& 2 = 0)
theorem HUq.lt {d : Int32} {x2 x3 : Nat → Int32} {n q : Nat} {r : Int32} (h : HUq d x2 x3 n q r) : lt4 r := by
  obtain ⟨k, h1, h2, -⟩ := h
  exact ⟨k, h1, h2⟩
theorem ex_0 {P : Nat → Prop} : ∀ h : Nat, h < 1 → ((false = true) ↔ ∃ k, k < 0 ∧ P k) := fun _ _ => ⟨fun q => absurd q (by decide), fun ⟨k, hk, _⟩ => absurd hk (by omega)⟩
theorem ex_n {P : Nat → Prop} {q : Nat} (h : ¬ P q) : (∃ k, k < q + 1 ∧ P k) ↔ ∃ k, k < q ∧ P k := by
  constructor
  · rintro ⟨k, hk, e⟩
    refine ⟨k, ?_, e⟩
    rcases Nat.lt_or_ge k q with z | z
    · exact z
    · have : k = q := by omega
      subst this
      exact absurd e h
  · rintro ⟨k, hk, e⟩
    exact ⟨k, by omega, e⟩
theorem ex_y {P : Nat → Prop} {q : Nat} (h : P q) : ∃ k, k < q + 1 ∧ P k := ⟨q, by omega, h⟩
theorem HU_0 {d : Int32} {x2 x3 : Nat → Int32} {n : Nat} : HUq d x2 x3 n 0 0 := ⟨0, by decide, rfl, ⟨fun q => absurd q (by decide), fun ⟨k, hk, _⟩ => absurd hk (by omega)⟩, ⟨fun q => absurd q (by decide), fun ⟨k, hk, _⟩ => absurd hk (by omega)⟩⟩
theorem HU_n {d : Int32} {x2 x3 : Nat → Int32} {n q : Nat} {r : Int32} (h : HUq d x2 x3 n q r) (hn : ¬ alP (nI (2 * q)) d x2 x3 n) : HUq d x2 x3 n (q + 1) r := by
  obtain ⟨k, h1, h2, h3, h4⟩ := h
  exact ⟨k, h1, h2, h3.trans (ex_n (P := fun k => alP (nI (2 * k)) d x2 x3 n ∧ nI (2 * k) &&& 2 = 0) (fun w => hn w.1)).symm, h4.trans (ex_n (P := fun k => alP (nI (2 * k)) d x2 x3 n ∧ ¬ nI (2 * k) &&& 2 = 0) (fun w => hn w.1)).symm⟩
theorem or_n1 {h : Nat} (hh : h < 4) : ∃ k, k < 4 ∧ nI h ||| 1 = nI k ∧ k.testBit 0 = true ∧ (k.testBit 1 = h.testBit 1) := by
  have : ∀ h, h < 4 → (h ||| 1) < 4 ∧ nI h ||| 1 = nI (h ||| 1) ∧ (h ||| 1).testBit 0 = true ∧ ((h ||| 1).testBit 1 = h.testBit 1) := by decide +kernel
  exact ⟨h ||| 1, this h hh⟩
theorem or_n2 {h : Nat} (hh : h < 4) : ∃ k, k < 4 ∧ nI h ||| 2 = nI k ∧ k.testBit 1 = true ∧ (k.testBit 0 = h.testBit 0) := by
  have : ∀ h, h < 4 → (h ||| 2) < 4 ∧ nI h ||| 2 = nI (h ||| 2) ∧ (h ||| 2).testBit 1 = true ∧ ((h ||| 2).testBit 0 = h.testBit 0) := by decide +kernel
  exact ⟨h ||| 2, this h hh⟩
theorem HU_1 {d : Int32} {x2 x3 : Nat → Int32} {n q : Nat} {r : Int32} (h : HUq d x2 x3 n q r) (ha : alP (nI (2 * q)) d x2 x3 n) (hc : nI (2 * q) &&& 2 = 0) : HUq d x2 x3 n (q + 1) (r ||| 1) := by
  obtain ⟨k, h1, rfl, h3, h4⟩ := h
  obtain ⟨j, j1, j2, j3, j4⟩ := or_n1 h1
  exact ⟨j, j1, j2, ⟨fun _ => ex_y (P := fun k => alP (nI (2 * k)) d x2 x3 n ∧ nI (2 * k) &&& 2 = 0) ⟨ha, hc⟩, fun _ => j3⟩, by rw [j4]; exact h4.trans (ex_n (P := fun k => alP (nI (2 * k)) d x2 x3 n ∧ ¬ nI (2 * k) &&& 2 = 0) (fun w => w.2 hc)).symm⟩
theorem HU_2 {d : Int32} {x2 x3 : Nat → Int32} {n q : Nat} {r : Int32} (h : HUq d x2 x3 n q r) (ha : alP (nI (2 * q)) d x2 x3 n) (hc : ¬ nI (2 * q) &&& 2 = 0) : HUq d x2 x3 n (q + 1) (r ||| 2) := by
  obtain ⟨k, h1, rfl, h3, h4⟩ := h
  obtain ⟨j, j1, j2, j3, j4⟩ := or_n2 h1
  exact ⟨j, j1, j2, by rw [j4]; exact h3.trans (ex_n (P := fun k => alP (nI (2 * k)) d x2 x3 n ∧ nI (2 * k) &&& 2 = 0) (fun w => hc w.2)).symm, ⟨fun _ => ex_y (P := fun k => alP (nI (2 * k)) d x2 x3 n ∧ ¬ nI (2 * k) &&& 2 = 0) ⟨ha, hc⟩, fun _ => j3⟩⟩
/-- the bits of all edges -/
def owW (x1 : Nat → Int32) : Nat → Int32
  | 0 => 0
  | i + 1 => owW x1 i ||| ((if x1 i = 3 then (1 : Int32) else 3) <<< ((nI (2 * i)) &&& 31))
def owH (x1 : Nat → Int32) : Nat → Int32
  | 0 => 0
  | i + 1 => owH x1 i ||| ((if x1 i = 3 then (2 : Int32) else 3) <<< ((nI (2 * i)) &&& 31))
def OwK (x1 x2 x3 : Nat → Int32) (n v : Nat) (r : Int32) : Prop := ∃ h, HUq (owH x1 n) x2 x3 n (2 ^ (v - 1)) h ∧ r = wyF (owW x1 n) x2 x3 n v ||| (h <<< (2 &&& 31))
def KdC (x1 x2 x3 : Nat → Int32) (n v : Nat) (r : Int32) : Prop := (isD x1 n = 0 ∧ r = -1003) ∨ (¬ isD x1 n = 0 ∧ OwK x1 x2 x3 n v r)
