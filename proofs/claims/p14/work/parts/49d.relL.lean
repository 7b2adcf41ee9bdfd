/-! kinds, on both sides -/
/-- a function again and again -/
def itN (f : Nat → Nat) : Nat → Nat → Nat
  | 0, m => m
  | q + 1, m => f (itN f q m)
theorem it_lt {f : Nat → Nat} {v m : Nat} (hl : ∀ x, x < 2 ^ v → f x < 2 ^ v) (hm : m < 2 ^ v) : ∀ q, itN f q m < 2 ^ v := by
  intro q
  induction q with
  | zero => exact hm
  | succ q ih => exact hl _ ih
theorem it_stab {f : Nat → Nat} {v m a : Nat} (hl : ∀ x, x < 2 ^ v → f x < 2 ^ v) (hi : ∀ x b, x.testBit b = true → (f x).testBit b = true) (hm : m < 2 ^ v) (ha : m.testBit a = true) (hav : a < v) : itN f v m = itN f (v - 1) m := by
  have key : ∀ q, q + 1 ≤ pcn (itN f q m) v ∨ itN f (q + 1) m = itN f q m := by
    intro q
    induction q with
    | zero => exact Or.inl (pcn_pos ha v hav)
    | succ q ih =>
      rcases ih with w | w
      · have hs : pcn (itN f q m) v ≤ pcn (itN f (q + 1) m) v := pcn_sub (fun b z => hi _ b z) v
        rcases Nat.lt_or_ge (pcn (itN f q m) v) (pcn (itN f (q + 1) m) v) with z | z
        · exact Or.inl (by omega)
        · have e : itN f q m = itN f (q + 1) m := pcn_same (it_lt hl hm q) (it_lt hl hm (q + 1)) (fun b z => hi _ b z) (by omega)
          refine Or.inr ?_
          rw [itN, ← e]
          exact e.symm
      · refine Or.inr ?_
        rw [itN, w]
        exact w
  obtain ⟨k, rfl⟩ : ∃ k, v = k + 1 := ⟨v - 1, by omega⟩
  rw [show k + 1 - 1 = k by omega]
  rcases key k with w | w
  · have h1 := pcn_le (m := itN f (k + 1) m) (k + 1)
    have hs : pcn (itN f k m) (k + 1) ≤ pcn (itN f (k + 1) m) (k + 1) := pcn_sub (fun b z => hi _ b z) (k + 1)
    exact (pcn_same (it_lt hl hm k) (it_lt hl hm (k + 1)) (fun b z => hi _ b z) (by omega)).symm
  · exact w
theorem it_more {f : Nat → Nat} {v m a : Nat} (hl : ∀ x, x < 2 ^ v → f x < 2 ^ v) (hi : ∀ x b, x.testBit b = true → (f x).testBit b = true) (hm : m < 2 ^ v) (ha : m.testBit a = true) (hav : a < v) : ∀ n, itN f (v - 1 + n) m = itN f (v - 1) m := by
  have hs := it_stab hl hi hm ha hav
  intro n
  induction n with
  | zero => rfl
  | succ n ih =>
    rw [show v - 1 + (n + 1) = (v - 1 + n) + 1 by omega, itN, ih]
    rw [show v = (v - 1) + 1 by omega, itN] at hs
    rw [show v - 1 + 1 - 1 = v - 1 by omega] at hs
    exact hs
/-- one edge, its ways told by bits -/
def gSt (p q : Bool) (A B m : Nat) : Nat := if q = true then nS1 B A (if p = true then nS1 A B m else m) else (if p = true then nS1 A B m else m)
theorem gS_lt {p q : Bool} {A B m v : Nat} (hm : m < 2 ^ v) (hA : A < v) (hB : B < v) : gSt p q A B m < 2 ^ v := by
  unfold gSt
  have h1 : (if p = true then nS1 A B m else m) < 2 ^ v := by
    split
    · exact nS1_lt hm hB
    · exact hm
  split
  · exact nS1_lt h1 hA
  · exact h1
theorem gS_in {p q : Bool} {A B m a : Nat} (h : m.testBit a = true) : (gSt p q A B m).testBit a = true := by
  unfold gSt
  have h1 : (if p = true then nS1 A B m else m).testBit a = true := by
    split
    · exact nS1_in h
    · exact h
  split
  · exact nS1_in h1
  · exact h1
theorem cw_g {y : Int32} {p q : Bool} {m A B v : Nat} (hy : y &&& 1 = 0 ↔ p = false) (hy2 : y &&& 2 = 0 ↔ q = false) (hv : v ≤ 9) (hm : m < 2 ^ v) (hA : A < v) (hB : B < v) : cw y (nI m) (nI A) (nI B) = nI (gSt p q A B m) := by
  have h1 : cw1 y (nI m) (nI A) (nI B) = nI (if p = true then nS1 A B m else m) := by
    cases p
    · rw [cw1_a (hy.mpr rfl)]; rfl
    · rw [cw1_n (fun z => absurd (hy.mp z) (by decide)) (p2_31 hm hv) (by omega) (by omega)]; rfl
  have hlt : (if p = true then nS1 A B m else m) < 2 ^ v := by
    split
    · exact nS1_lt hm hB
    · exact hm
  unfold cw gSt
  rw [h1]
  cases q
  · rw [cw2_a (hy2.mpr rfl)]; rfl
  · rw [cw2_n (fun z => absurd (hy2.mp z) (by decide)) (p2_31 hlt hv) (by omega) (by omega)]; rfl
theorem hR_k {k b : Nat} (hk : k < 16) (hb : b < 4) : (hR (nI k) (nI b) = 0 ↔ k.testBit b = false) := by
  rw [hR_n (by omega) (by omega)]
  cases k.testBit b <;> simp
theorem lm_g {Q A B m k v : Nat} (hQ : Q < 5) (hv : v ≤ 9) (hm : m < 2 ^ v) (hA : A < v) (hB : B < v) (hk : k < 16) : lm (nI m) (nI (100 * Q + 10 * A + B)) (nI k) = nI (gSt (k.testBit 0) (k.testBit 1) A B m) := by
  have k0 := hR_k (b := 0) hk (by decide)
  have k1 := hR_k (b := 1) hk (by decide)
  have k0' : hR (nI k) 0 = 0 ↔ k.testBit 0 = false := k0
  have k1' : hR (nI k) 1 = 0 ↔ k.testBit 1 = false := k1
  have e1 : lm1 (nI m) (nI (100 * Q + 10 * A + B)) (nI k) = nI (if k.testBit 0 = true then nS1 A B m else m) := by
    unfold lm1 nS1
    rw [fO_n hQ (by omega) (by omega), tO_n hQ (by omega) (by omega), hR_n (w := m) (by have := p2_31 hm hv; omega) (by omega)]
    by_cases h : m.testBit A = true
    · rw [if_pos h, if_pos h, if_neg (show ¬ (1 : Int32) = 0 from by decide)]
      cases hb : k.testBit 0
      · rw [if_pos (k0'.mpr hb), or_zero32]; rfl
      · rw [if_neg (fun z => by rw [k0'.mp z] at hb; exact absurd hb (by decide)), or_b (p2_31 hm hv) (by omega)]; rfl
    · rw [if_neg h, if_neg h, if_pos rfl, or_zero32]
      cases k.testBit 0 <;> rfl
  have hlt : (if k.testBit 0 = true then nS1 A B m else m) < 2 ^ v := by
    split
    · exact nS1_lt hm hB
    · exact hm
  unfold lm gSt
  rw [e1]
  generalize (if k.testBit 0 = true then nS1 A B m else m) = m1 at hlt ⊢
  unfold lm2 nS1
  rw [fO_n hQ (by omega) (by omega), tO_n hQ (by omega) (by omega), hR_n (w := m1) (by have := p2_31 hlt hv; omega) (by omega)]
  by_cases h : m1.testBit B = true
  · rw [if_pos h, if_pos h, if_neg (show ¬ (1 : Int32) = 0 from by decide)]
    cases hb : k.testBit 1
    · rw [if_pos (k1'.mpr hb), or_zero32]; rfl
    · rw [if_neg (fun z => by rw [k1'.mp z] at hb; exact absurd hb (by decide)), or_b (p2_31 hlt hv) (by omega)]; rfl
  · rw [if_neg h, if_neg h, if_pos rfl, or_zero32]
    cases k.testBit 1 <;> rfl
def gN (k A B : Nat → Nat) : Nat → Nat → Nat
  | 0, m => m
  | i + 1, m => gSt ((k i).testBit 0) ((k i).testBit 1) (A i) (B i) (gN k A B i m)
theorem gN_lt {k A B : Nat → Nat} {v m : Nat} (hm : m < 2 ^ v) : ∀ i, (∀ j, j < i → A j < v ∧ B j < v) → gN k A B i m < 2 ^ v := by
  intro i
  induction i with
  | zero => intro _; exact hm
  | succ i ih => intro h; exact gS_lt (ih (fun j hj => h j (by omega))) (h i (by omega)).1 (h i (by omega)).2
theorem gN_in {k A B : Nat → Nat} {m a : Nat} (h : m.testBit a = true) : ∀ i, (gN k A B i m).testBit a = true := by
  intro i
  induction i with
  | zero => exact h
  | succ i ih => exact gS_in ih
/-- a rule's rows, as numbers: letters, nodes; w nodes, e edges -/
def RWR (x2 x3 rg : Nat → Int32) (j : Nat) (Q A B : Nat → Nat) (e w : Nat) : Prop := ∀ i, i < e → Q i < 5 ∧ A i < w ∧ B i < w ∧ x2 i = nI (A i) ∧ x3 i = nI (B i) ∧ rg ((3 * j) + i) = nI (100 * Q i + 10 * A i + B i)
theorem w64 {k0 k1 k2 : Nat} (a : k0 < 4) (b : k1 < 4) (c : k2 < 4) : k0 + 4 * k1 + 16 * k2 < 64 := by omega
theorem dg3 {k0 k1 k2 i : Nat} (a : k0 < 4) (b : k1 < 4) (c : k2 < 4) (hi : i < 3) : (k0 + 4 * k1 + 16 * k2) / 4 ^ i % 4 = k3f k0 k1 k2 i := by
  rcases (show i = 0 ∨ i = 1 ∨ i = 2 by omega) with rfl | rfl | rfl
  · show (k0 + 4 * k1 + 16 * k2) / 1 % 4 = k0; omega
  · show (k0 + 4 * k1 + 16 * k2) / 4 % 4 = k1; omega
  · show (k0 + 4 * k1 + 16 * k2) / 16 % 4 = k2; omega
theorem k3_m {k0 k1 k2 i : Nat} : k3f (k0 % 4) (k1 % 4) (k2 % 4) i = k3f k0 k1 k2 i % 4 := by
  unfold k3f
  split
  · rfl
  · split <;> rfl
theorem k3_d {k0 k1 k2 i : Nat} : k3f (k0 / 4) (k1 / 4) (k2 / 4) i = k3f k0 k1 k2 i / 4 := by
  unfold k3f
  split
  · rfl
  · split <;> rfl
theorem k3_lt {k0 k1 k2 i : Nat} (a : k0 < 16) (b : k1 < 16) (c : k2 < 16) : k3f k0 k1 k2 i < 16 := by
  unfold k3f
  split
  · exact a
  · split
    · exact b
    · exact c
theorem tb4 {k b : Nat} (hk : k < 16) (hb : b < 2) : (decide (k % 4 / 2 ^ b % 2 = 1) = k.testBit b) ∧ (decide (k / 4 / 2 ^ b % 2 = 1) = k.testBit (b + 2)) := by
  have : ∀ k, k < 16 → ∀ b, b < 2 → (decide (k % 4 / 2 ^ b % 2 = 1) = k.testBit b) ∧ (decide (k / 4 / 2 ^ b % 2 = 1) = k.testBit (b + 2)) := by decide +kernel
  exact this k hk b hb
theorem way_g {W k0 k1 k2 i : Nat} (a : k0 < 16) (b : k1 < 16) (c : k2 < 16) (hi : i < 3) (hW : W = k0 % 4 + 4 * (k1 % 4) + 16 * (k2 % 4)) : ((nI W >>> ((nI (2 * i)) &&& 31)) &&& 1 = 0 ↔ (k3f k0 k1 k2 i).testBit 0 = false) ∧ ((nI W >>> ((nI (2 * i)) &&& 31)) &&& 2 = 0 ↔ (k3f k0 k1 k2 i).testBit 1 = false) := by
  have hd : W / 4 ^ i % 4 = k3f k0 k1 k2 i % 4 := by rw [hW, dg3 (by omega) (by omega) (by omega) hi, k3_m]
  have h64 : W < 64 := by omega
  have hk := k3_lt (i := i) a b c
  have hle : W / 2 ^ (2 * i) ≤ W := Nat.div_le_self _ _
  constructor
  · rw [bit_z (by omega) (by omega), show 2 * i = 2 * i + 0 from rfl, tb_dig hd (by decide), (tb4 hk (by decide)).1]
  · rw [shr_nI (by omega) (by omega), and2_n (by omega), Nat.testBit_div_two_pow, Nat.add_comm 1 (2 * i), tb_dig2 hd, (tb4 (b := 1) hk (by decide)).1]
section
variable {x2 x3 rg : Nat → Int32} {j e w : Nat} {Q A B : Nat → Nat} {k0 k1 k2 : Nat}
theorem cwN_g {W v m : Nat} (hv : v ≤ 9) (hwv : w ≤ v) (he : e ≤ 3) (hm : m < 2 ^ v) (h : RWR x2 x3 rg j Q A B e w) (a : k0 < 16) (b : k1 < 16) (c : k2 < 16) (hW : W = k0 % 4 + 4 * (k1 % 4) + 16 * (k2 % 4)) : ∀ i, i ≤ e → cwN (nI W) x2 x3 i (nI m) = nI (gN (k3f k0 k1 k2) A B i m) := by
  intro i
  induction i with
  | zero => intro _; rfl
  | succ i ih =>
    intro hi
    obtain ⟨h1, h2, h3, e2, e3, -⟩ := h i (by omega)
    have hw := way_g (i := i) a b c (by omega) hW
    rw [cwN, ih (by omega), e2, e3, gN, cw_g hw.1 hw.2 hv (gN_lt hm i (fun q hq => ⟨by have := (h q (by omega)).2.1; omega, by have := (h q (by omega)).2.2.1; omega⟩)) (by omega) (by omega)]
theorem cwR_g {W v m : Nat} (hv : v ≤ 9) (hwv : w ≤ v) (he : e ≤ 3) (hm : m < 2 ^ v) (h : RWR x2 x3 rg j Q A B e w) (a : k0 < 16) (b : k1 < 16) (c : k2 < 16) (hW : W = k0 % 4 + 4 * (k1 % 4) + 16 * (k2 % 4)) : ∀ q, cwR (nI W) x2 x3 e q (nI m) = nI (itN (gN (k3f k0 k1 k2) A B e) q m) := by
  intro q
  induction q with
  | zero => rfl
  | succ q ih =>
    have hl : ∀ x, x < 2 ^ v → gN (k3f k0 k1 k2) A B e x < 2 ^ v := fun x hx => gN_lt hx e (fun q hq => ⟨by have := (h q hq).2.1; omega, by have := (h q hq).2.2.1; omega⟩)
    rw [cwR, ih, cwN_g hv hwv he (it_lt hl hm q) h a b c hW e (Nat.le_refl _), itN]
theorem lmN_g {v m : Nat} (hv : v ≤ 9) (hwv : w ≤ v) (hm : m < 2 ^ v) (h : RWR x2 x3 rg j Q A B e w) (a : k0 < 16) (b : k1 < 16) (c : k2 < 16) : ∀ i, i ≤ e → lmN rg (fun i => nI (k3f k0 k1 k2 i)) j i (nI m) = nI (gN (k3f k0 k1 k2) A B i m) := by
  intro i
  induction i with
  | zero => intro _; rfl
  | succ i ih =>
    intro hi
    obtain ⟨h1, h2, h3, -, -, e4⟩ := h i (by omega)
    rw [lmN, ih (by omega), e4, gN]
    exact lm_g h1 hv (gN_lt hm i (fun q hq => ⟨by have := (h q (by omega)).2.1; omega, by have := (h q (by omega)).2.2.1; omega⟩)) (by omega) (by omega) (k3_lt a b c)
theorem lmR_g {v m : Nat} (hv : v ≤ 9) (hwv : w ≤ v) (hm : m < 2 ^ v) (h : RWR x2 x3 rg j Q A B e w) (a : k0 < 16) (b : k1 < 16) (c : k2 < 16) : ∀ q, lmR rg (fun i => nI (k3f k0 k1 k2 i)) j e q (nI m) = nI (itN (gN (k3f k0 k1 k2) A B e) q m) := by
  intro q
  induction q with
  | zero => rfl
  | succ q ih =>
    have hl : ∀ x, x < 2 ^ v → gN (k3f k0 k1 k2) A B e x < 2 ^ v := fun x hx => gN_lt hx e (fun q hq => ⟨by have := (h q hq).2.1; omega, by have := (h q hq).2.2.1; omega⟩)
    rw [lmR, ih, lmN_g hv hwv (it_lt hl hm q) h a b c e (Nat.le_refl _), itN]
/-- the ways of a rule's body are the same on both sides -/
theorem ways_eq {W : Nat} (hw2 : 2 ≤ w) (hw4 : w ≤ 4) (he : e ≤ 3) (h : RWR x2 x3 rg j Q A B e w) (a : k0 < 16) (b : k1 < 16) (c : k2 < 16) (hW : W = k0 % 4 + 4 * (k1 % 4) + 16 * (k2 % 4)) : wyF (nI W) x2 x3 e w = (if hR (lmR rg (fun i => nI (k3f k0 k1 k2 i)) j e 4 1) 1 = 0 then (0 : Int32) else 1) ||| (if hR (lmR rg (fun i => nI (k3f k0 k1 k2 i)) j e 4 2) 0 = 0 then (0 : Int32) else 2) := by
  have hl : ∀ x, x < 2 ^ w → gN (k3f k0 k1 k2) A B e x < 2 ^ w := fun x hx => gN_lt hx e (fun q hq => ⟨(h q hq).2.1, (h q hq).2.2.1⟩)
  have hi : ∀ x b, x.testBit b = true → (gN (k3f k0 k1 k2) A B e x).testBit b = true := fun x b z => gN_in z e
  have f : ∀ a' b' : Nat, a' < 2 → b' < 2 → (cmF (nI a') (nI b') (nI W) x2 x3 e w = 0 ↔ hR (lmR rg (fun i => nI (k3f k0 k1 k2 i)) j e 4 (nI (2 ^ a'))) (nI b') = 0) := fun a' b' ha hb => by
    have hp : 2 ^ a' < 2 ^ w := Nat.pow_lt_pow_right (by decide) (by omega)
    have ht : (2 ^ a').testBit a' = true := by rw [Nat.testBit_two_pow]; simp
    have hlt := it_lt hl hp (w - 1)
    have h512 := p2_31 hlt (by omega)
    unfold cmF
    rw [shl_b (by omega), cwR_g (v := w) (by omega) (Nat.le_refl _) he hp h a b c hW, lmR_g (v := w) (by omega) (Nat.le_refl _) hp h a b c, show 4 = w - 1 + (5 - w) by omega, it_more hl hi hp ht (by omega), hR_n (by omega) (by omega)]
    by_cases q : (itN (gN (k3f k0 k1 k2) A B e) (w - 1) (2 ^ a')).testBit b' = true
    · rw [if_pos q, if_neg (fun z => by rw [bit_z (by omega) (by omega), q] at z; exact absurd z (by decide))]
    · rw [if_neg q, if_pos ((bit_z (by omega) (by omega)).mpr (by simpa using q))]
  have e1 : cmF 0 1 (nI W) x2 x3 e w = 0 ↔ hR (lmR rg (fun i => nI (k3f k0 k1 k2 i)) j e 4 1) 1 = 0 := f 0 1 (by decide) (by decide)
  have e2 : cmF 1 0 (nI W) x2 x3 e w = 0 ↔ hR (lmR rg (fun i => nI (k3f k0 k1 k2 i)) j e 4 2) 0 = 0 := f 1 0 (by decide) (by decide)
  unfold wyF
  by_cases q1 : cmF 0 1 (nI W) x2 x3 e w = 0 <;> by_cases q2 : cmF 1 0 (nI W) x2 x3 e w = 0
  · rw [if_pos q1, if_pos q2, if_pos (e1.mp q1), if_pos (e2.mp q2)]
  · rw [if_pos q1, if_neg q2, if_pos (e1.mp q1), if_neg (fun z => q2 (e2.mpr z))]
  · rw [if_neg q1, if_pos q2, if_neg (fun z => q1 (e1.mpr z)), if_pos (e2.mp q2)]
  · rw [if_neg q1, if_neg q2, if_neg (fun z => q1 (e1.mpr z)), if_neg (fun z => q2 (e2.mpr z))]
/-- colours that are right for the classes of the edges -/
def colG (k A B : Nat → Nat) (e c : Nat) : Prop := ∀ i, i < e → (if c.testBit (A i) = c.testBit (B i) then (k i).testBit 2 else (k i).testBit 3) = true
theorem al_g {Hh c : Nat} (hw4 : w ≤ 4) (he : e ≤ 3) (h : RWR x2 x3 rg j Q A B e w) (a : k0 < 16) (b : k1 < 16) (cc : k2 < 16) (hH : Hh = k0 / 4 + 4 * (k1 / 4) + 16 * (k2 / 4)) (hc : c < 512) : alP (nI c) (nI Hh) x2 x3 e ↔ colG (k3f k0 k1 k2) A B e c := by
  have key : ∀ i, i < e → (¬ (nI Hh >>> (((nI (2 * i)) + (((nI c >>> ((x2 i) &&& 31)) ^^^ (nI c >>> ((x3 i) &&& 31))) &&& 1)) &&& 31)) &&& 1 = 0 ↔ (if c.testBit (A i) = c.testBit (B i) then (k3f k0 k1 k2 i).testBit 2 else (k3f k0 k1 k2 i).testBit 3) = true) := fun i hi => by
    obtain ⟨a1, a2, a3, a5, a6, -⟩ := h i hi
    have hd : Hh / 4 ^ i % 4 = k3f k0 k1 k2 i / 4 := by rw [hH, dg3 (by omega) (by omega) (by omega) (by omega), k3_d]
    have hk := k3_lt (i := i) a b cc
    rw [a5, a6, un_n hc (by omega) (by omega), nI_add]
    by_cases q : c.testBit (A i) = c.testBit (B i)
    · rw [if_pos q, if_pos q, bit_z (by omega) (by omega), tb_dig hd (by decide), (tb4 (b := 0) hk (by decide)).2]
      cases (k3f k0 k1 k2 i).testBit (0 + 2) <;> simp
    · rw [if_neg q, if_neg q, bit_z (by omega) (by omega), tb_dig hd (by decide), (tb4 (b := 1) hk (by decide)).2]
      cases (k3f k0 k1 k2 i).testBit (1 + 2) <;> simp
  exact ⟨fun z i hi => (key i hi).mp (z i hi), fun z i hi => (key i hi).mpr (z i hi)⟩
theorem ic_g {c : Nat} (hw4 : w ≤ 4) (h : RWR x2 x3 rg j Q A B e w) (a : k0 < 16) (b : k1 < 16) (cc : k2 < 16) (hc : c < 512) : ∀ n, n ≤ e → (icN rg (fun i => nI (k3f k0 k1 k2 i)) j (nI c) n = 0 ↔ ¬ colG (k3f k0 k1 k2) A B n c) := by
  intro n
  induction n with
  | zero => intro _; exact ⟨fun q => absurd q (show ¬ (1 : Int32) = 0 from by decide), fun q => absurd (fun i hi => absurd hi (by omega)) q⟩
  | succ n ih =>
    intro hn
    have ih := ih (by omega)
    obtain ⟨a1, a2, a3, -, -, a7⟩ := h n (by omega)
    have hk := k3_lt (i := n) a b cc
    have k2' : hR (nI (k3f k0 k1 k2 n)) 2 = 0 ↔ (k3f k0 k1 k2 n).testBit 2 = false := hR_k (b := 2) hk (by decide)
    have k3' : hR (nI (k3f k0 k1 k2 n)) 3 = 0 ↔ (k3f k0 k1 k2 n).testBit 3 = false := hR_k (b := 3) hk (by decide)
    have split9 : colG (k3f k0 k1 k2) A B (n + 1) c ↔ colG (k3f k0 k1 k2) A B n c ∧ (if c.testBit (A n) = c.testBit (B n) then (k3f k0 k1 k2 n).testBit 2 else (k3f k0 k1 k2 n).testBit 3) = true := by
      constructor
      · exact fun z => ⟨fun i hi => z i (by omega), z n (by omega)⟩
      · rintro ⟨z1, z2⟩ i hi
        by_cases e9 : i = n
        · subst e9; exact z2
        · exact z1 i (by omega)
    rw [icN, split9]
    rw [a7, fO_n a1 (by omega) (by omega), tO_n a1 (by omega) (by omega), hR_n (w := c) (by omega) (by omega), hR_n (w := c) (by omega) (by omega)]
    by_cases z : icN rg (fun i => nI (k3f k0 k1 k2 i)) j (nI c) n = 0
    · rw [if_pos z]
      exact ⟨fun _ q => (ih.mp z) q.1, fun _ => rfl⟩
    · rw [if_neg z]
      have hcol : colG (k3f k0 k1 k2) A B n c := Classical.byContradiction (fun q => z (ih.mpr q))
      by_cases q : c.testBit (A n) = c.testBit (B n)
      · rw [if_pos q, q, if_pos rfl]
        cases x : (k3f k0 k1 k2 n).testBit 2
        · rw [if_pos (k2'.mpr x)]
          exact ⟨fun _ w => absurd w.2 (by decide), fun _ => rfl⟩
        · rw [if_neg (fun w => by rw [k2'.mp w] at x; exact absurd x (by decide))]
          exact ⟨fun w => absurd w (by decide), fun w => absurd ⟨hcol, rfl⟩ w⟩
      · rw [if_neg q]
        have hne : ¬ (if c.testBit (A n) = true then (1 : Int32) else 0) = (if c.testBit (B n) = true then 1 else 0) := fun w => by
          apply q
          cases x : c.testBit (A n) <;> cases y : c.testBit (B n) <;> rw [x, y] at w <;> first | rfl | exact absurd w (by decide)
        rw [if_neg hne]
        cases x : (k3f k0 k1 k2 n).testBit 3
        · rw [if_pos (k3'.mpr x)]
          exact ⟨fun _ w => absurd w.2 (by decide), fun _ => rfl⟩
        · rw [if_neg (fun w => by rw [k3'.mp w] at x; exact absurd x (by decide))]
          exact ⟨fun w => absurd w (by decide), fun w => absurd ⟨hcol, rfl⟩ w⟩
end
/-- which colourings there are, of the reference -/
def MBq (P : Nat → Prop) (n : Nat) (r : Int32) : Prop := ∃ h, h < 4 ∧ r = nI (4 * h) ∧ (h.testBit 0 = true ↔ ∃ c, c < n ∧ P c ∧ c.testBit 0 = c.testBit 1) ∧ (h.testBit 1 = true ↔ ∃ c, c < n ∧ P c ∧ ¬ c.testBit 0 = c.testBit 1)
theorem mcb_g {x2 x3 rg : Nat → Int32} {j e w : Nat} {Q A B : Nat → Nat} {k0 k1 k2 : Nat} (hw4 : w ≤ 4) (h : RWR x2 x3 rg j Q A B e w) (a : k0 < 16) (b : k1 < 16) (cc : k2 < 16) : ∀ n, n ≤ 16 → MBq (colG (k3f k0 k1 k2) A B e) n (mcb rg (fun i => nI (k3f k0 k1 k2 i)) j e n) := by
  intro n
  induction n with
  | zero => intro _; exact ⟨0, by decide, rfl, ⟨fun q => absurd q (by decide), fun ⟨k, hk, _⟩ => absurd hk (by omega)⟩, ⟨fun q => absurd q (by decide), fun ⟨k, hk, _⟩ => absurd hk (by omega)⟩⟩
  | succ n ih =>
    intro hn
    obtain ⟨x, hx, ex, x0, x1⟩ := ih (by omega)
    have hic := ic_g (c := n) hw4 h a b cc (by omega) e (Nat.le_refl _)
    have hb0 : hR (nI n) 0 = if n.testBit 0 = true then 1 else 0 := hR_n (k := 0) (by omega) (by decide)
    have hb1 : hR (nI n) 1 = if n.testBit 1 = true then 1 else 0 := hR_n (k := 1) (by omega) (by decide)
    have hbb : hR (nI n) 0 = hR (nI n) 1 ↔ n.testBit 0 = n.testBit 1 := by
      rw [hb0, hb1]
      cases n.testBit 0 <;> cases n.testBit 1 <;> simp
    rw [mcb, ex]
    by_cases z : icN rg (fun i => nI (k3f k0 k1 k2 i)) j (nI n) e = 0
    · rw [if_pos z, or_zero32]
      have hno := hic.mp z
      exact ⟨x, hx, rfl, x0.trans (ex_n (P := fun c => colG (k3f k0 k1 k2) A B e c ∧ c.testBit 0 = c.testBit 1) (fun w => hno w.1)).symm, x1.trans (ex_n (P := fun c => colG (k3f k0 k1 k2) A B e c ∧ ¬ c.testBit 0 = c.testBit 1) (fun w => hno w.1)).symm⟩
    · rw [if_neg z]
      have hcol : colG (k3f k0 k1 k2) A B e n := Classical.byContradiction (fun q => z (hic.mpr q))
      by_cases q : n.testBit 0 = n.testBit 1
      · rw [if_pos (hbb.mpr q)]
        obtain ⟨y, j1, j2, j3, j4⟩ := or_n4 hx
        exact ⟨y, j1, j2, ⟨fun _ => ex_y (P := fun c => colG (k3f k0 k1 k2) A B e c ∧ c.testBit 0 = c.testBit 1) ⟨hcol, q⟩, fun _ => j3⟩, by rw [j4]; exact x1.trans (ex_n (P := fun c => colG (k3f k0 k1 k2) A B e c ∧ ¬ c.testBit 0 = c.testBit 1) (fun w => w.2 q)).symm⟩
      · rw [if_neg (fun w => q (hbb.mp w))]
        obtain ⟨y, j1, j2, j3, j4⟩ := or_n8 hx
        exact ⟨y, j1, j2, by rw [j4]; exact x0.trans (ex_n (P := fun c => colG (k3f k0 k1 k2) A B e c ∧ c.testBit 0 = c.testBit 1) (fun w => q w.2)).symm, ⟨fun _ => ex_y (P := fun c => colG (k3f k0 k1 k2) A B e c ∧ ¬ c.testBit 0 = c.testBit 1) ⟨hcol, q⟩, fun _ => j3⟩⟩
theorem colG_not {k A B : Nat → Nat} {e v c : Nat} (hc : c < 2 ^ v) (hAB : ∀ j, j < e → A j < v ∧ B j < v) (h : colG k A B e c) : colG k A B e (2 ^ v - (c + 1)) := fun i hi => by
  have q := h i hi
  have f : ((2 ^ v - (c + 1)).testBit (A i) = (2 ^ v - (c + 1)).testBit (B i)) ↔ (c.testBit (A i) = c.testBit (B i)) := by
    rw [Nat.testBit_two_pow_sub_succ hc, Nat.testBit_two_pow_sub_succ hc, show decide (A i < v) = true from decide_eq_true (hAB i hi).1, show decide (B i < v) = true from decide_eq_true (hAB i hi).2]
    cases c.testBit (A i) <;> cases c.testBit (B i) <;> simp
  by_cases z : c.testBit (A i) = c.testBit (B i)
  · rw [if_pos z] at q; rw [if_pos (f.mpr z)]; exact q
  · rw [if_neg z] at q; rw [if_neg (fun w => z (f.mp w))]; exact q
theorem colG_mod {k A B : Nat → Nat} {e v c : Nat} (hAB : ∀ j, j < e → A j < v ∧ B j < v) (h : colG k A B e c) : colG k A B e (c % 2 ^ v) := fun i hi => by
  have q := h i hi
  rw [Nat.testBit_mod_two_pow, Nat.testBit_mod_two_pow, show decide (A i < v) = true from decide_eq_true (hAB i hi).1, show decide (B i < v) = true from decide_eq_true (hAB i hi).2, Bool.true_and, Bool.true_and]
  exact q
theorem hues_eq {x2 x3 rg : Nat → Int32} {j e w : Nat} {Q A B : Nat → Nat} {k0 k1 k2 Hh : Nat} {u : Int32} (hw2 : 2 ≤ w) (hw4 : w ≤ 4) (he : e ≤ 3) (h : RWR x2 x3 rg j Q A B e w) (a : k0 < 16) (b : k1 < 16) (cc : k2 < 16) (hH : Hh = k0 / 4 + 4 * (k1 / 4) + 16 * (k2 / 4)) (hu : HUq (nI Hh) x2 x3 e (2 ^ (w - 1)) u) : ∃ x, x < 4 ∧ u = nI x ∧ mcb rg (fun i => nI (k3f k0 k1 k2 i)) j e 16 = nI (4 * x) := by
  have hAB : ∀ i, i < e → A i < w ∧ B i < w := fun i hi => ⟨(h i hi).2.1, (h i hi).2.2.1⟩
  have hp := pow_half (v := w) (by omega)
  have h16 : 2 ^ w ≤ 2 ^ 4 := Nat.pow_le_pow_right (by decide) hw4
  have h4 : 2 ^ 2 ≤ 2 ^ w := Nat.pow_le_pow_right (by decide) hw2
  obtain ⟨x, hx, rfl, x0, x1⟩ := hu
  obtain ⟨y, hy, ey, y0, y1⟩ := mcb_g hw4 h a b cc 16 (Nat.le_refl _)
  have ev : ∀ k : Nat, (2 * k).testBit 0 = false := fun k => by rw [Nat.testBit_zero]; simp
  have low0 : ∀ c, c < 2 ^ w → colG (k3f k0 k1 k2) A B e c → ∃ k, k < 2 ^ (w - 1) ∧ colG (k3f k0 k1 k2) A B e (2 * k) ∧ ((2 * k).testBit 1 = true ↔ ¬ c.testBit 0 = c.testBit 1) := fun c hc hcol => by
    by_cases z : c.testBit 0 = true
    · have e0 : (2 ^ w - (c + 1)).testBit 0 = false := by
        rw [Nat.testBit_two_pow_sub_succ hc, z]
        simp
      have e1 : (2 ^ w - (c + 1)).testBit 1 = !c.testBit 1 := by
        rw [Nat.testBit_two_pow_sub_succ hc]
        rw [show decide (1 < w) = true from decide_eq_true (by omega), Bool.true_and]
      have e2 : (2 ^ w - (c + 1)) % 2 = 0 := by
        rw [Nat.testBit_zero, decide_eq_false_iff_not] at e0
        omega
      refine ⟨(2 ^ w - (c + 1)) / 2, by omega, ?_, ?_⟩
      · rw [show 2 * ((2 ^ w - (c + 1)) / 2) = 2 ^ w - (c + 1) by omega]
        exact colG_not hc hAB hcol
      · rw [show 2 * ((2 ^ w - (c + 1)) / 2) = 2 ^ w - (c + 1) by omega, e1, z]
        cases c.testBit 1 <;> simp
    · have e' : c.testBit 0 = false := by simpa using z
      have e2 : c % 2 = 0 := by
        rw [Nat.testBit_zero, decide_eq_false_iff_not] at e'
        omega
      refine ⟨c / 2, by omega, ?_, ?_⟩
      · rw [show 2 * (c / 2) = c by omega]; exact hcol
      · rw [show 2 * (c / 2) = c by omega, e']
        cases c.testBit 1 <;> simp
  have low : ∀ c, c < 16 → colG (k3f k0 k1 k2) A B e c → ∃ k, k < 2 ^ (w - 1) ∧ colG (k3f k0 k1 k2) A B e (2 * k) ∧ ((2 * k).testBit 1 = true ↔ ¬ c.testBit 0 = c.testBit 1) := fun c hc hcol => by
    have hb0 : (c % 2 ^ w).testBit 0 = c.testBit 0 := by rw [Nat.testBit_mod_two_pow, show decide (0 < w) = true from decide_eq_true (by omega), Bool.true_and]
    have hb1 : (c % 2 ^ w).testBit 1 = c.testBit 1 := by rw [Nat.testBit_mod_two_pow, show decide (1 < w) = true from decide_eq_true (by omega), Bool.true_and]
    have q := low0 (c % 2 ^ w) (Nat.mod_lt _ (by omega)) (colG_mod hAB hcol)
    rw [hb0, hb1] at q
    exact q
  have k0' : x.testBit 0 = true ↔ y.testBit 0 = true := by
    rw [x0, y0]
    constructor
    · rintro ⟨k, hk, h1, h2⟩
      refine ⟨2 * k, by omega, (al_g hw4 he h a b cc hH (by omega)).mp h1, ?_⟩
      rw [ev, (and2_n (by omega)).mp h2]
    · rintro ⟨c, hc, h1, h2⟩
      obtain ⟨k, hk, h5, h6⟩ := low c hc h1
      refine ⟨k, hk, (al_g hw4 he h a b cc hH (by omega)).mpr h5, (and2_n (by omega)).mpr ?_⟩
      have h7 : ¬ (2 * k).testBit 1 = true := fun z => h6.mp z h2
      simpa using h7
  have k1' : x.testBit 1 = true ↔ y.testBit 1 = true := by
    rw [x1, y1]
    constructor
    · rintro ⟨k, hk, h1, h2⟩
      refine ⟨2 * k, by omega, (al_g hw4 he h a b cc hH (by omega)).mp h1, ?_⟩
      have h3' : (2 * k).testBit 1 = true := by
        have : ¬ (2 * k).testBit 1 = false := fun z => h2 ((and2_n (by omega)).mpr z)
        simpa using this
      rw [ev, h3']
      decide
    · rintro ⟨c, hc, h1, h2⟩
      obtain ⟨k, hk, h5, h6⟩ := low c hc h1
      refine ⟨k, hk, (al_g hw4 he h a b cc hH (by omega)).mpr h5, fun z => ?_⟩
      have h7 := h6.mpr h2
      rw [(and2_n (by omega)).mp z] at h7
      exact absurd h7 (by decide)
  have hxy : x = y := by
    apply Nat.eq_of_testBit_eq
    intro i
    rcases (show i = 0 ∨ i = 1 ∨ 2 ≤ i by omega) with q | q | q
    · subst q
      cases p : x.testBit 0 <;> cases r : y.testBit 0 <;> rw [p, r] at k0' <;> simp_all
    · subst q
      cases p : x.testBit 1 <;> cases r : y.testBit 1 <;> rw [p, r] at k1' <;> simp_all
    · have hx4 : x < 2 ^ i := Nat.lt_of_lt_of_le hx (show 2 ^ 2 ≤ 2 ^ i from Nat.pow_le_pow_right (by decide) q)
      have hy4 : y < 2 ^ i := Nat.lt_of_lt_of_le hy (show 2 ^ 2 ≤ 2 ^ i from Nat.pow_le_pow_right (by decide) q)
      rw [Nat.testBit_lt_two_pow hx4, Nat.testBit_lt_two_pow hy4]
  subst hxy
  exact ⟨x, hx, rfl, ey⟩
theorem wy_lt4 (d : Int32) (x2 x3 : Nat → Int32) (n v : Nat) : lt4 (wyF d x2 x3 n v) := by
  by_cases h1 : cmF 0 1 d x2 x3 n v = 0 <;> by_cases h2 : cmF 1 0 d x2 x3 n v = 0
  · exact (wy_0 h1 h2).2
  · exact (wy_2 h1 h2).2
  · exact (wy_1 h1 h2).2
  · exact (wy_3 h1 h2).2
/-- the class of a rule's body is the same on both sides -/
theorem K_eq {x2 x3 x5 x6 rg : Nat → Int32} {j e w : Nat} {Q A B : Nat → Nat} {k0 k1 k2 : Nat} (hw2 : 2 ≤ w) (hw4 : w ≤ 4) (he : e ≤ 3) (h : RWR x2 x3 rg j Q A B e w) (a : k0 < 16) (b : k1 < 16) (cc : k2 < 16) (h5 : ∀ i, i < 64 → x5 i = wyF (nI i) x2 x3 e w) (h6 : ∀ i, i < 64 → HUq (nI i) x2 x3 e (2 ^ (w - 1)) (x6 i)) : KFn x5 x6 k0 k1 k2 = MKn rg (fun i => nI (k3f k0 k1 k2 i)) j e := by
  obtain ⟨x, hx, e1, e2⟩ := hues_eq hw2 hw4 he h a b cc rfl (h6 (k0 / 4 + 4 * (k1 / 4) + 16 * (k2 / 4)) (by omega))
  obtain ⟨y, hy, e3⟩ := wy_lt4 (nI (k0 % 4 + 4 * (k1 % 4) + 16 * (k2 % 4))) x2 x3 e w
  have e4 := ways_eq hw2 hw4 he h a b cc (W := k0 % 4 + 4 * (k1 % 4) + 16 * (k2 % 4)) rfl
  unfold KFn MKn MKv
  rw [← e4, e2, h5 _ (by omega), e1, e3, nI_clamp (by omega), nI_clamp (by omega)]
  have f : ∀ y, y < 4 → ∀ x, x < 4 → (nI y ||| nI (4 * x)).toNatClampNeg = y + 4 * x := by decide +kernel
  exact (f y hy x hx).symm
/-- the tables of the class's rules -/
def RRX (ρ : Nat → RT) (r : Nat) : Prop := ∀ j, j < r → ∃ e w, e ≤ 3 ∧ w ≤ 4 ∧ 2 ≤ w ∧ 1 ≤ e ∧ (ρ j).2.1.2.1 = nI e ∧ (ρ j).2.1.2.2 = nI w ∧ (∀ i, i < 3 → (ρ j).2.2.2.2.2.1 i = slv (ρ j).2.2.1 e i) ∧ (∀ i, i < 64 → (ρ j).2.2.2.2.2.2.1 i = wyF (nI i) (ρ j).2.2.2.1 (ρ j).2.2.2.2.1 e w) ∧ ∀ i, i < 64 → HUq (nI i) (ρ j).2.2.2.1 (ρ j).2.2.2.2.1 e (2 ^ (w - 1)) ((ρ j).2.2.2.2.2.2.2 i)
theorem RRX_add {ρ ρ2 : Nat → RT} {pf : Nat → Int32} {z r : Nat} (h : RRX ρ r) (hR : RuleOK pf z) (hn : RNx pf z (ρ2 r)) (hk : ∀ k, ¬ k = r → ρ2 k = ρ k) : RRX ρ2 (r + 1) := fun j hj => by
  by_cases e : j = r
  · subst e
    have hz := ro_z hR
    obtain ⟨⟨-, a2, a3, -, a5, -⟩, h5, h6⟩ := hn
    exact ⟨(z - 2) / 3, ndN pf z, by omega, nd_le4 hR, nd_ge pf z, by omega, a2, a3, a5, h5, h6⟩
  · rw [hk j e]; exact h j (by omega)
theorem RRX_drop {ρ : Nat → RT} {r k : Nat} (h : RRX ρ r) (hk : k < r) : RRX (fun j => ρ (sg k r j)) (r - 1) := fun j hj => by
  dsimp only
  rw [sg_lt hj]
  split
  · exact h j (by omega)
  · exact h (j + 1) (by omega)
theorem ru_rrx {pf : Nat → Int32} {z r : Nat} {ρ : Nat → RT} {a : Int32} {z2 r2 : Nat} {ρ2 : Nat → RT} (h : RuP pf z r ρ a z2 r2 ρ2) (hx : RuX pf z r r2 ρ2) (hR : RRX ρ r) : RRX ρ2 r2 := by
  rcases h with ⟨-, -, -, rfl, rfl⟩ | ⟨-, -, -, -, rfl, rfl⟩ | ⟨h1, h2, -, -, rfl, h3, h4⟩
  · exact hR
  · exact hR
  · exact RRX_add hR h1 (hx rfl) h4
theorem dr_rrx {p : Int32} {r : Nat} {ρ : Nat → RT} {a : Int32} {r2 : Nat} {ρ2 : Nat → RT} (h : DrP p r ρ a r2 ρ2) (hR : RRX ρ r) : RRX ρ2 r2 := by
  rcases h with ⟨-, -, rfl, rfl⟩ | ⟨k, hk, -, -, rfl, rfl⟩
  · exact hR
  · exact RRX_drop hR hk
theorem hs_0 {i e : Nat} (h : e ≤ i) (hi : i < 1000) : hs (nI i) e = 0 := by
  rw [hs, if_neg (nI_pos (by omega)), if_pos (nI_le h (by omega))]
/-- bits that are none allow no colouring -/
theorem al_zero {H i : Nat} {x : Int32} (hH : H < 64) (hd : H / 4 ^ i % 4 = 0) (hi : i < 3 := by omega) : (nI H >>> (((nI (2 * i)) + (x &&& 1)) &&& 31)) &&& 1 = 0 := by
  have hx : ∃ u, u < 2 ∧ x &&& 1 = nI u := by
    have h : (x &&& 1).toBitVec = x.toBitVec &&& (1 : Int32).toBitVec := rfl
    refine ⟨(x &&& 1).toBitVec.toNat, ?_, ?_⟩
    · rw [h, BitVec.toNat_and]
      exact Nat.lt_of_le_of_lt Nat.and_le_right (by decide)
    · apply Int32.toBitVec_inj.mp
      show (x &&& 1).toBitVec = BitVec.ofNat 32 (x &&& 1).toBitVec.toNat
      rw [BitVec.ofNat_toNat, BitVec.setWidth_eq]
  obtain ⟨u, hu, e⟩ := hx
  rw [e, nI_add, bit_z (by omega) (by omega), tb_dig hd hu]
  simp
/-- both systems of rules -/
theorem sys_eq {ρ : Nat → RT} {ro re rn rg : Nat → Int32} {r j : Nat} (hR : RREL ρ ro re rn rg r) (hX : RRX ρ r) (hj : j < r) : cO ρ j = mO ro j ∧ (∀ i, i < 3 → cT ρ j i = mT re rg j i) ∧ (∀ k0 k1 k2, k0 < 16 → k1 < 16 → k2 < 16 → cK ρ j k0 k1 k2 = mK re rg j k0 k1 k2) ∧ (re j).toNatClampNeg ≤ 3 ∧ (∀ i, i < (re j).toNatClampNeg → LEn rg j i < 5 ∧ mT re rg j i = LEn rg j i) := by
  obtain ⟨x1, x2, x3, e, w, y1, y2, y3, y4, y5, y6, y7⟩ := hR j hj
  obtain ⟨e', w', z1, z2, z3, z4, z5, z6, z7, z8, z9⟩ := hX j hj
  have ee : e' = e := (nI_eq (by omega) (by omega)).mp (by rw [← z5, ← x2, y5])
  have ew : w' = w := (nI_eq (by omega) (by omega)).mp (by rw [← z6, ← x3, y6])
  subst ee
  subst ew
  have cl : (re j).toNatClampNeg = e' := by rw [y5, nI_clamp (by omega)]
  have hl : ∀ i, i < e' → LEn rg j i < 5 ∧ (ρ j).2.2.1 i = nI (LEn rg j i) := fun i hi => by
    obtain ⟨q, a, b, q1, q2, q3, q4, q5, q6, q7, q8⟩ := y7 i hi
    have : LEn rg j i = q := LEn_n q8 q1 (by omega) (by omega)
    rw [this]; exact ⟨q1, q5⟩
  refine ⟨by rw [cO, mO, x1], fun i hi => ?_, fun k0 k1 k2 a b c => ?_, by rw [cl]; exact y2, fun i hi => ?_⟩
  · rw [cT, z7 i hi, slv, mT, cl]
    by_cases q : i < e'
    · rw [if_neg (hs_k q (by omega)), if_pos q, (hl i q).2, nI_clamp (by have := (hl i q).1; omega)]
    · have hs0 : hs (nI i) e' = 0 := hs_0 (by omega) (by omega)
      rw [if_pos hs0, if_neg q]
      decide
  · have hrows : RWR (ρ j).2.2.2.1 (ρ j).2.2.2.2.1 rg j (fun i => LEn rg j i) (fun i => ((ρ j).2.2.2.1 i).toNatClampNeg) (fun i => ((ρ j).2.2.2.2.1 i).toNatClampNeg) e' w' := fun i hi => by
      obtain ⟨q, a, b, q1, q2, q3, q4, q5, q6, q7, q8⟩ := y7 i hi
      have hL : LEn rg j i = q := LEn_n q8 q1 (by omega) (by omega)
      dsimp only
      rw [hL, q6, q7, nI_clamp (by omega), nI_clamp (by omega)]
      exact ⟨q1, q2, q3, rfl, rfl, q8⟩
    unfold cK mK
    rw [cl]
    exact K_eq y3 y4 y2 hrows a b c z8 z9
  · rw [cl] at hi
    refine ⟨(hl i hi).1, ?_⟩
    rw [mT, cl, if_pos hi]
theorem Der_same {ρ : Nat → RT} {ro re rn rg : Nat → Int32} {r : Nat} (hR : RREL ρ ro re rn rg r) (hX : RRX ρ r) : ∀ n s, DerN r (cO ρ) (cT ρ) (cK ρ) n s ↔ DerN r (mO ro) (mT re rg) (mK re rg) n s := by
  intro n
  induction n with
  | zero => intro s; exact Iff.rfl
  | succ n ih =>
    intro s
    constructor
    · rintro (h | ⟨j, k0, k1, k2, hj, h0, h1, h2, d0, d1, d2, e⟩)
      · exact Or.inl ((ih s).mp h)
      · obtain ⟨q1, q2, q3, -⟩ := sys_eq hR hX hj
        rw [q2 0 (by decide)] at d0
        rw [q2 1 (by decide)] at d1
        rw [q2 2 (by decide)] at d2
        rw [q1, q3 k0 k1 k2 h0 h1 h2] at e
        exact Or.inr ⟨j, k0, k1, k2, hj, h0, h1, h2, (ih _).mp d0, (ih _).mp d1, (ih _).mp d2, e⟩
    · rintro (h | ⟨j, k0, k1, k2, hj, h0, h1, h2, d0, d1, d2, e⟩)
      · exact Or.inl ((ih s).mpr h)
      · obtain ⟨q1, q2, q3, -⟩ := sys_eq hR hX hj
        rw [← q2 0 (by decide)] at d0
        rw [← q2 1 (by decide)] at d1
        rw [← q2 2 (by decide)] at d2
        rw [← q1, ← q3 k0 k1 k2 h0 h1 h2] at e
        exact Or.inr ⟨j, k0, k1, k2, hj, h0, h1, h2, (ih _).mpr d0, (ih _).mpr d1, (ih _).mpr d2, e⟩
theorem DerM_iff {ρ : Nat → RT} {ro re rn rg : Nat → Int32} {r s : Nat} (hR : RREL ρ ro re rn rg r) (hX : RRX ρ r) : Der r (cO ρ) (cT ρ) (cK ρ) s ↔ DerM ro re rg r s := ⟨fun ⟨n, h⟩ => ⟨n, (Der_same hR hX n s).mp h⟩, fun ⟨n, h⟩ => ⟨n, (Der_same hR hX n s).mpr h⟩⟩
/-- the class's system is as the bound asks -/
theorem wfr {ρ : Nat → RT} {r : Nat} (hB : BI ρ r) (hX : RRX ρ r) : WFR r (cO ρ) (cT ρ) (cK ρ) := fun j hj => by
  obtain ⟨⟨o, ho, eo⟩, -, -, -, -, hw, hu⟩ := hB j hj
  obtain ⟨e, w, z1, z2, z3, z4, z5, z6, z7, z8, z9⟩ := hX j hj
  refine ⟨by rw [cO_n eo ho]; exact ho, fun i hi => cT_lt hB hj hi, fun k0 k1 k2 a b c => kf_lt a b c hw hu, fun k0 k1 k2 l0 l1 l2 a b c a' b' c' m0 m1 m2 => ?_, fun k0 k1 k2 a b c hz => ?_⟩
  · unfold cK KFn
    rw [m0, m1, m2]
    omega
  · have hH : (ρ j).2.2.2.2.2.2.2 (k0 / 4 + 4 * (k1 / 4) + 16 * (k2 / 4)) = nI 0 := by
      obtain ⟨x, hx, ex, x0, x1⟩ := z9 (k0 / 4 + 4 * (k1 / 4) + 16 * (k2 / 4)) (by omega)
      have hno : ∀ cc : Int32, ¬ alP cc (nI (k0 / 4 + 4 * (k1 / 4) + 16 * (k2 / 4))) (ρ j).2.2.2.1 (ρ j).2.2.2.2.1 e := fun cc h => by
        have key : ∀ i, i < 3 → ¬ cT ρ j i = 5 → k3f k0 k1 k2 i / 4 = 0 → False := fun i hi ht hk => by
          have hie : i < e := by
            rcases Nat.lt_or_ge i e with q | q
            · exact q
            · refine absurd ?_ ht
              have hs0 : hs (nI i) e = 0 := hs_0 q (by omega)
              rw [cT, z7 i hi, slv, if_pos hs0]; decide
          have := h i hie
          exact this (al_zero (by omega) (by rw [dg3 (by omega) (by omega) (by omega) hi, k3_d]; exact hk) hi)
        rcases hz with ⟨q1, q2⟩ | ⟨q1, q2⟩ | ⟨q1, q2⟩
        · exact key 0 (by decide) q2 (by show k0 / 4 = 0; omega)
        · exact key 1 (by decide) q2 (by show k1 / 4 = 0; omega)
        · exact key 2 (by decide) q2 (by show k2 / 4 = 0; omega)
      have n0 : ¬ x.testBit 0 = true := fun q => by obtain ⟨k, -, h1, -⟩ := x0.mp q; exact hno _ h1
      have n1 : ¬ x.testBit 1 = true := fun q => by obtain ⟨k, -, h1, -⟩ := x1.mp q; exact hno _ h1
      have : ∀ x, x < 4 → x.testBit 0 = false → x.testBit 1 = false → x = 0 := by decide +kernel
      rw [ex, this x hx (by simpa using n0) (by simpa using n1)]
    unfold cK KFn
    rw [hH, nI_clamp (by decide)]
    obtain ⟨y, hy, ey⟩ := hw (k0 % 4 + 4 * (k1 % 4) + 16 * (k2 % 4)) (by omega)
    rw [ey, nI_clamp (by omega)]
    omega
theorem lgc {x c : Int64} : 0 ≤ lg_cmp x c ↔ c.toInt ≤ x.toInt := by rw [lg_cmp_ge, Int64.le_iff_toInt_le]
/-- what is below the bound is what can be derived: of the class -/
theorem CF_iff {ρ : Nat → RT} {r : Nat} {f : Nat → Int64} (hB : BI ρ r) (hX : RRX ρ r) (hF : LFin ρ r f) {s : Nat} (hs : s < 96) : (f s).toInt < 2305843009213693952 ↔ Der r (cO ρ) (cT ρ) (cK ρ) s := by
  refine ⟨hF.2.1 s hs, fun h => ?_⟩
  have hW := wfr hB hX
  have hc : Clo r (cO ρ) (cT ρ) (cK ρ) (fun s => (f s).toInt.toNat) 2305843009213693952 := by
    refine ⟨by show (f 57).toInt.toNat = 0; rw [hF.2.2.1.1]; rfl, by show (f 79).toInt.toNat = 0; rw [hF.2.2.1.2.1]; rfl, by show (f 92).toInt.toNat = 0; rw [hF.2.2.1.2.2]; rfl, fun j k0 k1 k2 hj a b c d0 d1 d2 hlt => ?_⟩
    dsimp only at hlt ⊢
    have l0 := cT_lt hB hj (i := 0) (by decide)
    have l1 := cT_lt hB hj (i := 1) (by decide)
    have l2 := cT_lt hB hj (i := 2) (by decide)
    have r0 := hF.1 (cT ρ j 0 * 16 + k0) (by omega)
    have r1 := hF.1 (cT ρ j 1 * 16 + k1) (by omega)
    have r2 := hF.1 (cT ρ j 2 * 16 + k2) (by omega)
    have q := hF.2.2.2 j hj k0 k1 k2 a b c ⟨by omega, by omega, by omega⟩
    omega
  have q := Der_lt hW hc (by omega) h
  have := (hF.1 s hs).1
  omega
theorem t3 {k0 k1 k2 e i : Nat} (a : k0 < 16) (b : k1 < 16) (c : k2 < 16) (he : e ≤ 3) (hi : i < e) : (k0 + 16 * k1 + 256 * k2) / 16 ^ i % 16 = k3f k0 k1 k2 i := by
  rcases (show i = 0 ∨ i = 1 ∨ i = 2 by omega) with rfl | rfl | rfl
  · show (k0 + 16 * k1 + 256 * k2) / 1 % 16 = k0; omega
  · show (k0 + 16 * k1 + 256 * k2) / 16 % 16 = k1; omega
  · show (k0 + 16 * k1 + 256 * k2) / 256 % 16 = k2; omega
/-- of the reference -/
theorem MF_iff {ρ : Nat → RT} {ro re rn rg : Nat → Int32} {r : Nat} {la : Nat → Int64} (hB : BI ρ r) (hR : RREL ρ ro re rn rg r) (hX : RRX ρ r) (hF : MFin ro re rg r la) {s : Nat} (hs : s < 80) : (la s).toInt < 1152921504606846976 ↔ Der r (cO ρ) (cT ρ) (cK ρ) s := by
  refine ⟨fun h => (DerM_iff hR hX).mpr (hF.2.1 s hs h), fun h => ?_⟩
  have hW := wfr hB hX
  have hc : Clo r (cO ρ) (cT ρ) (cK ρ) (fun s => if s < 80 then (la s).toInt.toNat else 0) 1152921504606846976 := by
    refine ⟨?_, ?_, rfl, fun j k0 k1 k2 hj a b c d0 d1 d2 hlt => ?_⟩
    · show (la 57).toInt.toNat = 0; rw [hF.2.2.1]; rfl
    · show (la 79).toInt.toNat = 0; rw [hF.2.2.2.1]; rfl
    dsimp only at hlt ⊢
    obtain ⟨q1, q2, q3, q4, q5⟩ := sys_eq hR hX hj
    have hm := hF.2.2.2.2 j hj
    have ho : cO ρ j < 3 := (hW j hj).1
    have hk16 := (hW j hj).2.2.1 k0 k1 k2 a b c
    -- a child's number
    have ch : ∀ i, i < 3 → ∀ k, k < 16 → Der r (cO ρ) (cT ρ) (cK ρ) (cT ρ j i * 16 + k) → (i < (re j).toNatClampNeg → ((if cT ρ j i * 16 + k < 80 then (la (cT ρ j i * 16 + k)).toInt.toNat else 0 : Nat) : Int) = (la (16 * LEn rg j i + k)).toInt) := fun i hi k hk d hie => by
      have hT : cT ρ j i = LEn rg j i := by rw [q2 i hi, (q5 i hie).2]
      have h5 := (q5 i hie).1
      rw [hT, if_pos (by omega), Nat.mul_comm]
      have := (hF.1 (16 * LEn rg j i + k) (by omega)).1
      omega
    have g0 := ch 0 (by decide) k0 a d0
    have g1 := ch 1 (by decide) k1 b d1
    have g2 := ch 2 (by decide) k2 c d2
    generalize ((if cT ρ j 0 * 16 + k0 < 80 then (la (cT ρ j 0 * 16 + k0)).toInt.toNat else 0) : Nat) = n0 at g0 hlt ⊢
    generalize ((if cT ρ j 1 * 16 + k1 < 80 then (la (cT ρ j 1 * 16 + k1)).toInt.toNat else 0) : Nat) = n1 at g1 hlt ⊢
    generalize ((if cT ρ j 2 * 16 + k2 < 80 then (la (cT ρ j 2 * 16 + k2)).toInt.toNat else 0) : Nat) = n2 at g2 hlt ⊢
    generalize hE : (re j).toNatClampNeg = e at q4 q5 g0 g1 g2
    have hst : ∀ t, t = (k0 + 16 * k1 + 256 * k2) % 16 ^ e → (∀ i, i < e → t / 16 ^ i % 16 = k3f k0 k1 k2 i) := fun t ht i hi => by
      rw [ht]
      rcases (show e = 1 ∨ e = 2 ∨ e = 3 by omega) with rfl | rfl | rfl
      · rcases (show i = 0 by omega) with rfl
        show (k0 + 16 * k1 + 256 * k2) % 16 / 1 % 16 = k0; omega
      · rcases (show i = 0 ∨ i = 1 by omega) with rfl | rfl
        · show (k0 + 16 * k1 + 256 * k2) % 256 / 1 % 16 = k0; omega
        · show (k0 + 16 * k1 + 256 * k2) % 256 / 16 % 16 = k1; omega
      · rcases (show i = 0 ∨ i = 1 ∨ i = 2 by omega) with rfl | rfl | rfl
        · show (k0 + 16 * k1 + 256 * k2) % 4096 / 1 % 16 = k0; omega
        · show (k0 + 16 * k1 + 256 * k2) % 4096 / 16 % 16 = k1; omega
        · show (k0 + 16 * k1 + 256 * k2) % 4096 / 256 % 16 = k2; omega
    have ht := hst _ rfl
    have hlt' : (k0 + 16 * k1 + 256 * k2) % 16 ^ e < 16 ^ e := Nat.mod_lt _ (Nat.pow_pos (by decide))
    generalize (k0 + 16 * k1 + 256 * k2) % 16 ^ e = t at ht hlt'
    have hn : nwS la rg j t e ≤ 1 + (n0 : Int) + n1 + n2 := by
      have s0 : ∀ m, m ≤ e → nwS la rg j t m ≤ 1 + (if 0 < m then (n0 : Int) else 0) + (if 1 < m then (n1 : Int) else 0) + (if 2 < m then (n2 : Int) else 0) := by
        intro m hm9
        rcases (show m = 0 ∨ m = 1 ∨ m = 2 ∨ m = 3 by omega) with rfl | rfl | rfl | rfl
        · show (1 : Int) ≤ 1 + 0 + 0 + 0; omega
        · rw [nwS, nwS, ht 0 (by omega)]
          have := g0 (by omega)
          show 1 + (la (16 * LEn rg j 0 + k0)).toInt ≤ 1 + (n0 : Int) + 0 + 0
          omega
        · rw [nwS, nwS, nwS, ht 0 (by omega), ht 1 (by omega)]
          have := g0 (by omega)
          have := g1 (by omega)
          show 1 + (la (16 * LEn rg j 0 + k0)).toInt + (la (16 * LEn rg j 1 + k1)).toInt ≤ 1 + (n0 : Int) + n1 + 0
          omega
        · rw [nwS, nwS, nwS, nwS, ht 0 (by omega), ht 1 (by omega), ht 2 (by omega)]
          have := g0 (by omega)
          have := g1 (by omega)
          have := g2 (by omega)
          show 1 + (la (16 * LEn rg j 0 + k0)).toInt + (la (16 * LEn rg j 1 + k1)).toInt + (la (16 * LEn rg j 2 + k2)).toInt ≤ 1 + (n0 : Int) + n1 + n2
          omega
      have := s0 e (Nat.le_refl _)
      split at this <;> split at this <;> split at this <;> omega
    unfold ClM at hm
    rw [hE] at hm
    have q := hm t hlt' (by omega)
    have eK : MKt rg j e t = cK ρ j k0 k1 k2 := by
      rw [q3 k0 k1 k2 a b c, mK, hE]
      exact MKn_cg (fun i hi => by show nI (t / 16 ^ i % 16) = nI (k3f k0 k1 k2 i); rw [ht i hi])
    rw [eK, ← q1, Nat.mul_comm] at q
    rw [if_pos (by omega)]
    omega
  have q := Der_lt hW hc (by omega) h
  have := (hF.1 s hs).1
  rw [if_pos hs] at q
  omega
theorem kb_eq {f la : Nat → Int64} {a : Nat} (h : ∀ i, i < 16 → ((f (a * 16 + i)).toInt < 2305843009213693952 ↔ (la (16 * a + i)).toInt < 1152921504606846976)) : ∀ n, n ≤ 16 → kbF f a n = kbM la a n := by
  intro n
  induction n with
  | zero => intro _; rfl
  | succ n ih =>
    intro hn
    have q := h n (by omega)
    have e1 : 0 ≤ lg_cmp (f (a * 16 + n)) 2305843009213693952 ↔ 2305843009213693952 ≤ (f (a * 16 + n)).toInt := by rw [lgc, show (2305843009213693952 : Int64).toInt = 2305843009213693952 from by decide]
    have e2 : 0 ≤ lg_cmp (la (16 * a + n)) 1152921504606846976 ↔ 1152921504606846976 ≤ (la (16 * a + n)).toInt := by rw [lgc, show (1152921504606846976 : Int64).toInt = 1152921504606846976 from by decide]
    rw [kbF, kbM, ih (by omega), rcF]
    by_cases z : (f (a * 16 + n)).toInt < 2305843009213693952
    · rw [if_neg (fun w => absurd (e1.mp w) (by omega)), if_neg (show ¬ (1 : Int32) = 0 from by decide), if_neg (fun w => by have := e2.mp w; have := q.mp z; omega)]
    · rw [if_pos (e1.mpr (by omega)), if_pos rfl, if_pos (e2.mpr (by
        rcases Int.lt_or_le (la (16 * a + n)).toInt 1152921504606846976 with w | w
        · exact absurd (q.mpr w) z
        · exact w)), or_zero32]
theorem ki_rel {ρ : Nat → RT} {ro re rn rg : Nat → Int32} {r : Nat} {p x y : Int32} {f la : Nat → Int64} (hB : BI ρ r) (hR : RREL ρ ro re rn rg r) (hX : RRX ρ r) (h : KiC ρ r p f x) (h2 : KiM ro re rg r p la y) : x = y := by
  rcases h with ⟨h1, rfl⟩ | ⟨a, ha, rfl, rfl, hF⟩
  · rcases h2 with ⟨-, rfl⟩ | ⟨a, ha, rfl, -⟩
    · rfl
    · rw [opn_wi] at h1
      exact absurd h1 (by
        rcases (show a = 0 ∨ a = 1 ∨ a = 2 by omega) with rfl | rfl | rfl <;> decide)
  · rcases h2 with ⟨w, -⟩ | ⟨b, hb, e, rfl, hM⟩
    · exact absurd w (by
        rcases (show a = 0 ∨ a = 1 ∨ a = 2 by omega) with rfl | rfl | rfl <;> decide)
    · have := (nI_eq (by omega) (by omega)).mp e
      subst this
      refine kb_eq (fun i hi => ?_) 16 (Nat.le_refl _)
      rw [CF_iff hB hX hF (by omega), show 16 * a + i = a * 16 + i by omega, MF_iff hB hR hX hM (by omega)]
theorem ls_up {ρ ρ2 : Nat → RT} {r r2 : Nat} {a b : Int32} {f : Nat → Int64} (h : b = 0 ∨ (b = a ∧ r2 = r ∧ ρ2 = ρ)) (hL : ¬ a = 0 → LFin ρ r f) : ¬ b = 0 → LFin ρ2 r2 f := fun q => by
  rcases h with h | ⟨rfl, rfl, rfl⟩
  · exact absurd h q
  · exact hL q
theorem lm_up {ro re rg ro2 re2 rg2 : Nat → Int32} {r r2 : Nat} {a b : Int32} {la : Nat → Int64} (h : b = 0 ∨ (b = a ∧ r2 = r ∧ ro2 = ro ∧ re2 = re ∧ rg2 = rg)) (hL : ¬ a = 0 → MFin ro re rg r la) : ¬ b = 0 → MFin ro2 re2 rg2 r2 la := fun q => by
  rcases h with h | ⟨rfl, rfl, rfl, rfl, rfl⟩
  · exact absurd h q
  · exact hL q
theorem lm_g2 {ro re rg : Nat → Int32} {r : Nat} {a b : Int32} {la : Nat → Int64} (h : b = 0 ∨ b = a) (hL : ¬ a = 0 → MFin ro re rg r la) : ¬ b = 0 → MFin ro re rg r la := fun q => by
  rcases h with h | rfl
  · exact absurd h q
  · exact hL q
