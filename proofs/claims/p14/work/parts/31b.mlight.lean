/-! the reference's lights, just as they are -/
def lm1 (s e c : Int32) : Int32 := s ||| (if hR s (fO e) = 0 then 0 else if hR c 0 = 0 then 0 else (1 : Int32) <<< ((tO e) &&& 31))
def lm2 (s e c : Int32) : Int32 := s ||| (if hR s (tO e) = 0 then 0 else if hR c 1 = 0 then 0 else (1 : Int32) <<< ((fO e) &&& 31))
def lm (s e c : Int32) : Int32 := lm2 (lm1 s e c) e c
theorem lm1_a {s e c : Int32} (h : hR s (fO e) = 0) : lm1 s e c = s ||| 0 := by rw [lm1, if_pos h]
theorem lm1_b {s e c : Int32} (h : ¬ hR s (fO e) = 0) (h2 : hR c 0 = 0) : lm1 s e c = s ||| 0 := by rw [lm1, if_neg h, if_pos h2]
theorem lm1_c {s e c : Int32} (h : ¬ hR s (fO e) = 0) (h2 : ¬ hR c 0 = 0) : lm1 s e c = s ||| ((1 : Int32) <<< ((tO e) &&& 31)) := by rw [lm1, if_neg h, if_neg h2]
theorem lm2_a {s e c : Int32} (h : hR s (tO e) = 0) : lm2 s e c = s ||| 0 := by rw [lm2, if_pos h]
theorem lm2_b {s e c : Int32} (h : ¬ hR s (tO e) = 0) (h2 : hR c 1 = 0) : lm2 s e c = s ||| 0 := by rw [lm2, if_neg h, if_pos h2]
theorem lm2_c {s e c : Int32} (h : ¬ hR s (tO e) = 0) (h2 : ¬ hR c 1 = 0) : lm2 s e c = s ||| ((1 : Int32) <<< ((fO e) &&& 31)) := by rw [lm2, if_neg h, if_neg h2]
def lmN (rg cn : Nat → Int32) (j : Nat) : Nat → Int32 → Int32
  | 0, s => s
  | i + 1, s => lm (lmN rg cn j i s) (rg ((3 * j) + i)) (cn i)
def lmR (rg cn : Nat → Int32) (j e : Nat) : Nat → Int32 → Int32
  | 0, s => s
  | q + 1, s => lmN rg cn j e (lmR rg cn j e q s)
/-- whether colours c are right for the first i edges -/
def icN (rg cn : Nat → Int32) (j : Nat) (c : Int32) : Nat → Int32
  | 0 => 1
  | i + 1 => if icN rg cn j c i = 0 then 0 else if hR c (fO (rg ((3 * j) + i))) = hR c (tO (rg ((3 * j) + i))) then (if hR (cn i) 2 = 0 then 0 else 1) else (if hR (cn i) 3 = 0 then 0 else 1)
def mcb (rg cn : Nat → Int32) (j e : Nat) : Nat → Int32
  | 0 => 0
  | q + 1 => mcb rg cn j e q ||| (if icN rg cn j (nI q) e = 0 then 0 else if hR (nI q) 0 = hR (nI q) 1 then 4 else 8)
theorem mcb_B {rg cn : Nat → Int32} {j e : Nat} : ∀ q, B12 (mcb rg cn j e q) := by
  intro q
  induction q with
  | zero => exact Or.inl rfl
  | succ q ih =>
    rw [mcb]
    split
    · exact B12_0 ih
    · split
      · exact B12_4 ih
      · exact B12_8 ih
def MKv (rg cn : Nat → Int32) (j e : Nat) : Int32 := ((if hR (lmR rg cn j e 4 1) 1 = 0 then (0 : Int32) else 1) ||| (if hR (lmR rg cn j e 4 2) 0 = 0 then (0 : Int32) else 2)) ||| mcb rg cn j e 16
def MKn (rg cn : Nat → Int32) (j e : Nat) : Nat := (MKv rg cn j e).toNatClampNeg
theorem MKn_0 {rg cn : Nat → Int32} {j e k : Nat} (h1 : hR (lmR rg cn j e 4 1) 1 = 0) (h2 : hR (lmR rg cn j e 4 2) 0 = 0) (ek : (0 : Int32) ||| mcb rg cn j e 16 = nI k) (hk : k < 16) : MKn rg cn j e = k := by
  rw [MKn, MKv, if_pos h1, if_pos h2, show (0 : Int32) ||| 0 = 0 from by decide, ek, nI_clamp (by omega)]
theorem MKn_1 {rg cn : Nat → Int32} {j e k : Nat} (h1 : ¬ hR (lmR rg cn j e 4 1) 1 = 0) (h2 : hR (lmR rg cn j e 4 2) 0 = 0) (ek : (1 : Int32) ||| mcb rg cn j e 16 = nI k) (hk : k < 16) : MKn rg cn j e = k := by
  rw [MKn, MKv, if_neg h1, if_pos h2, show (1 : Int32) ||| 0 = 1 from by decide, ek, nI_clamp (by omega)]
theorem MKn_2 {rg cn : Nat → Int32} {j e k : Nat} (h1 : hR (lmR rg cn j e 4 1) 1 = 0) (h2 : ¬ hR (lmR rg cn j e 4 2) 0 = 0) (ek : (2 : Int32) ||| mcb rg cn j e 16 = nI k) (hk : k < 16) : MKn rg cn j e = k := by
  rw [MKn, MKv, if_pos h1, if_neg h2, show (0 : Int32) ||| 2 = 2 from by decide, ek, nI_clamp (by omega)]
theorem MKn_3 {rg cn : Nat → Int32} {j e k : Nat} (h1 : ¬ hR (lmR rg cn j e 4 1) 1 = 0) (h2 : ¬ hR (lmR rg cn j e 4 2) 0 = 0) (ek : (3 : Int32) ||| mcb rg cn j e 16 = nI k) (hk : k < 16) : MKn rg cn j e = k := by
  rw [MKn, MKv, if_neg h1, if_neg h2, show (1 : Int32) ||| 2 = 3 from by decide, ek, nI_clamp (by omega)]
theorem MKn_lt {rg cn : Nat → Int32} {j e : Nat} : MKn rg cn j e < 16 := by
  have hB := mcb_B (rg := rg) (cn := cn) (j := j) (e := e) 16
  by_cases h1 : hR (lmR rg cn j e 4 1) 1 = 0 <;> by_cases h2 : hR (lmR rg cn j e 4 2) 0 = 0
  · obtain ⟨k, hk, ek⟩ := or12 (c := 0) (by decide) hB
    rw [MKn_0 h1 h2 ek hk]; exact hk
  · obtain ⟨k, hk, ek⟩ := or12 (c := 2) (by decide) hB
    rw [MKn_2 h1 h2 ek hk]; exact hk
  · obtain ⟨k, hk, ek⟩ := or12 (c := 1) (by decide) hB
    rw [MKn_1 h1 h2 ek hk]; exact hk
  · obtain ⟨k, hk, ek⟩ := or12 (c := 3) (by decide) hB
    rw [MKn_3 h1 h2 ek hk]; exact hk
def LLx (la la2 : Nat → Int64) (k : Nat) (x : Int64) (r : Int32) : Prop := (r = 1 ∧ x < la k ∧ la2 = vp_updL la k x) ∨ (r = 0 ∧ ¬ x < la k ∧ la2 = la)
theorem LLx_y {la : Nat → Int64} {k : Nat} {x : Int64} (c : ¬ 0 ≤ lg_cmp x (la k)) : LLx la (vp_updL la k x) k x 1 := by
  rw [lg_cmp_ge] at c
  exact Or.inl ⟨rfl, Int64.not_le.mp c, rfl⟩
theorem LLx_n {la : Nat → Int64} {k : Nat} {x : Int64} (c : 0 ≤ lg_cmp x (la k)) : LLx la la k x 0 := by
  rw [lg_cmp_ge] at c
  exact Or.inr ⟨rfl, Int64.not_lt.mpr c, rfl⟩
