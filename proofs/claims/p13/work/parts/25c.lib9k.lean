/-! ways and colours as the reference reckons them -/
def hR (p k : Int32) : Int32 := if (p >>> (k &&& 31)) &&& 1 = 1 then 1 else 0
theorem hR_01 (p k : Int32) : hR p k = 0 ∨ hR p k = 1 := by
  unfold hR
  split
  · exact Or.inr rfl
  · exact Or.inl rfl
def md1 (s e : Int32) : Int32 := s ||| (if hR s (fO e) = 0 then 0 else (1 : Int32) <<< ((tO e) &&& 31))
def md2 (s e : Int32) : Int32 := s ||| (if hR s (tO e) = 0 then 0 else if lO e = 4 then (1 : Int32) <<< ((fO e) &&& 31) else 0)
def md (s e : Int32) : Int32 := md2 (md1 s e) e
theorem md1_a {s e : Int32} (h : hR s (fO e) = 0) : md1 s e = s ||| 0 := by rw [md1, if_pos h]
theorem md1_b {s e : Int32} (h : ¬ hR s (fO e) = 0) : md1 s e = s ||| ((1 : Int32) <<< ((tO e) &&& 31)) := by rw [md1, if_neg h]
theorem md2_a {s e : Int32} (h : hR s (tO e) = 0) : md2 s e = s ||| 0 := by rw [md2, if_pos h]
theorem md2_b {s e : Int32} (h : ¬ hR s (tO e) = 0) (h2 : ¬ lO e = 4) : md2 s e = s ||| 0 := by rw [md2, if_neg h, if_neg h2]
theorem md2_c {s e : Int32} (h : ¬ hR s (tO e) = 0) (h2 : lO e = 4) : md2 s e = s ||| ((1 : Int32) <<< ((fO e) &&& 31)) := by rw [md2, if_neg h, if_pos h2]
def mdN (ea : Nat → Int32) : Nat → Int32 → Int32
  | 0, s => s
  | i + 1, s => md (mdN ea i s) (ea i)
def mdR (ea : Nat → Int32) (n : Nat) : Nat → Int32 → Int32
  | 0, s => s
  | q + 1, s => mdN ea n (mdR ea n q s)
def mcP (p : Int32) (ea : Nat → Int32) (n : Nat) : Prop := ∀ i, i < n → lO (ea i) = 4 ∨ ¬ hR p (fO (ea i)) = hR p (tO (ea i))
theorem mcP_s {p : Int32} {ea : Nat → Int32} {i : Nat} (h : mcP p ea i) (h2 : lO (ea i) = 4 ∨ ¬ hR p (fO (ea i)) = hR p (tO (ea i))) : mcP p ea (i + 1) := fun j hj => by
  by_cases h9 : j = i
  · subst h9; exact h2
  · exact h j (by omega)
/-- which colourings there are among the first q -/
def MCq (ea : Nat → Int32) (n q : Nat) (r : Int32) : Prop := ∃ h, h < 4 ∧ r = nI (4 * h) ∧ (h.testBit 0 = true ↔ ∃ k, k < q ∧ mcP (nI k) ea n ∧ hR (nI k) 0 = hR (nI k) 1) ∧ (h.testBit 1 = true ↔ ∃ k, k < q ∧ mcP (nI k) ea n ∧ ¬ hR (nI k) 0 = hR (nI k) 1)
theorem MC_0 {ea : Nat → Int32} {n : Nat} : MCq ea n 0 0 := ⟨0, by decide, rfl, ⟨fun q => absurd q (by decide), fun ⟨k, hk, _⟩ => absurd hk (by omega)⟩, ⟨fun q => absurd q (by decide), fun ⟨k, hk, _⟩ => absurd hk (by omega)⟩⟩
theorem or_zero32 (r : Int32) : r ||| 0 = r := by
  apply Int32.toBitVec_inj.mp
  show r.toBitVec ||| (0 : Int32).toBitVec = r.toBitVec
  rw [show (0 : Int32).toBitVec = 0#32 from rfl, BitVec.or_zero]
theorem MC_n {ea : Nat → Int32} {n q : Nat} {r : Int32} (h : MCq ea n q r) (hn : ¬ mcP (nI q) ea n) : MCq ea n (q + 1) (r ||| 0) := by
  obtain ⟨k, h1, h2, h3, h4⟩ := h
  rw [or_zero32]
  exact ⟨k, h1, h2, h3.trans (ex_n (P := fun k => mcP (nI k) ea n ∧ hR (nI k) 0 = hR (nI k) 1) (fun w => hn w.1)).symm, h4.trans (ex_n (P := fun k => mcP (nI k) ea n ∧ ¬ hR (nI k) 0 = hR (nI k) 1) (fun w => hn w.1)).symm⟩
theorem or_n4 {h : Nat} (hh : h < 4) : ∃ k, k < 4 ∧ nI (4 * h) ||| 4 = nI (4 * k) ∧ k.testBit 0 = true ∧ (k.testBit 1 = h.testBit 1) := by
  have : ∀ h, h < 4 → (h ||| 1) < 4 ∧ nI (4 * h) ||| 4 = nI (4 * (h ||| 1)) ∧ (h ||| 1).testBit 0 = true ∧ ((h ||| 1).testBit 1 = h.testBit 1) := by decide +kernel
  exact ⟨h ||| 1, this h hh⟩
theorem or_n8 {h : Nat} (hh : h < 4) : ∃ k, k < 4 ∧ nI (4 * h) ||| 8 = nI (4 * k) ∧ k.testBit 1 = true ∧ (k.testBit 0 = h.testBit 0) := by
  have : ∀ h, h < 4 → (h ||| 2) < 4 ∧ nI (4 * h) ||| 8 = nI (4 * (h ||| 2)) ∧ (h ||| 2).testBit 1 = true ∧ ((h ||| 2).testBit 0 = h.testBit 0) := by decide +kernel
  exact ⟨h ||| 2, this h hh⟩
theorem MC_4 {ea : Nat → Int32} {n q : Nat} {r : Int32} (h : MCq ea n q r) (ha : mcP (nI q) ea n) (hc : hR (nI q) 0 = hR (nI q) 1) : MCq ea n (q + 1) (r ||| 4) := by
  obtain ⟨k, h1, rfl, h3, h4⟩ := h
  obtain ⟨j, j1, j2, j3, j4⟩ := or_n4 h1
  exact ⟨j, j1, j2, ⟨fun _ => ex_y (P := fun k => mcP (nI k) ea n ∧ hR (nI k) 0 = hR (nI k) 1) ⟨ha, hc⟩, fun _ => j3⟩, by rw [j4]; exact h4.trans (ex_n (P := fun k => mcP (nI k) ea n ∧ ¬ hR (nI k) 0 = hR (nI k) 1) (fun w => w.2 hc)).symm⟩
theorem MC_8 {ea : Nat → Int32} {n q : Nat} {r : Int32} (h : MCq ea n q r) (ha : mcP (nI q) ea n) (hc : ¬ hR (nI q) 0 = hR (nI q) 1) : MCq ea n (q + 1) (r ||| 8) := by
  obtain ⟨k, h1, rfl, h3, h4⟩ := h
  obtain ⟨j, j1, j2, j3, j4⟩ := or_n8 h1
  exact ⟨j, j1, j2, by rw [j4]; exact h3.trans (ex_n (P := fun k => mcP (nI k) ea n ∧ hR (nI k) 0 = hR (nI k) 1) (fun w => hc w.2)).symm, ⟨fun _ => ex_y (P := fun k => mcP (nI k) ea n ∧ ¬ hR (nI k) 0 = hR (nI k) 1) ⟨ha, hc⟩, fun _ => j3⟩⟩
def mlF (ea : Nat → Int32) (n v : Nat) : Int32 := (if hR (mdR ea n v ((1 : Int32) <<< (0 &&& 31))) 1 = 0 then 0 else 1) ||| (if hR (mdR ea n v ((1 : Int32) <<< (1 &&& 31))) 0 = 0 then 0 else 2)
theorem mlF_0 {ea : Nat → Int32} {n v : Nat} (h1 : hR (mdR ea n v ((1 : Int32) <<< (0 &&& 31))) 1 = 0) (h2 : hR (mdR ea n v ((1 : Int32) <<< (1 &&& 31))) 0 = 0) : mlF ea n v = 0 := by rw [mlF, if_pos h1, if_pos h2]; decide
theorem mlF_1 {ea : Nat → Int32} {n v : Nat} (h1 : ¬ hR (mdR ea n v ((1 : Int32) <<< (0 &&& 31))) 1 = 0) (h2 : hR (mdR ea n v ((1 : Int32) <<< (1 &&& 31))) 0 = 0) : mlF ea n v = 1 := by rw [mlF, if_neg h1, if_pos h2]; decide
theorem mlF_2 {ea : Nat → Int32} {n v : Nat} (h1 : hR (mdR ea n v ((1 : Int32) <<< (0 &&& 31))) 1 = 0) (h2 : ¬ hR (mdR ea n v ((1 : Int32) <<< (1 &&& 31))) 0 = 0) : mlF ea n v = 2 := by rw [mlF, if_pos h1, if_neg h2]; decide
theorem mlF_3 {ea : Nat → Int32} {n v : Nat} (h1 : ¬ hR (mdR ea n v ((1 : Int32) <<< (0 &&& 31))) 1 = 0) (h2 : ¬ hR (mdR ea n v ((1 : Int32) <<< (1 &&& 31))) 0 = 0) : mlF ea n v = 3 := by rw [mlF, if_neg h1, if_neg h2]; decide
def MKd (ea : Nat → Int32) (n v : Nat) (r : Int32) : Prop := ∃ c, MCq ea n (2 ^ v) c ∧ r = mlF ea n v ||| c
