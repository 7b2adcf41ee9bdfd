/-! the class of a graph, on both sides -/
theorem or_nI {a b : Nat} (ha : a < 2 ^ 31) (hb : b < 2 ^ 31) : nI a ||| nI b = nI (a ||| b) := by
  apply Int32.toBitVec_inj.mp
  apply BitVec.eq_of_toNat_eq
  have e1 : (nI a ||| nI b).toBitVec = (nI a).toBitVec ||| (nI b).toBitVec := rfl
  have e2 : ∀ n, (nI n).toBitVec.toNat = n % 2 ^ 32 := fun n => rfl
  have h6 : a ||| b < 2 ^ 31 := Nat.or_lt_two_pow ha hb
  rw [e1, BitVec.toNat_or, e2, e2, e2]
  rw [Nat.mod_eq_of_lt (by omega), Nat.mod_eq_of_lt (by omega), Nat.mod_eq_of_lt (by omega)]
theorem sm31 {k : Nat} (hk : k < 31) : ((nI k &&& 31).toBitVec.smod 32).toNat = k := by
  have : ∀ k, k < 31 → ((nI k &&& 31).toBitVec.smod 32).toNat = k := by decide +kernel
  exact this k hk
theorem shr_nI {w k : Nat} (hw : w < 2 ^ 31) (hk : k < 31) : nI w >>> (nI k &&& 31) = nI (w / 2 ^ k) := pk_shrN hw _ k (sm31 hk)
theorem shl_nI {c k : Nat} (hk : k < 31) (h : c * 2 ^ k < 2 ^ 31) : nI c <<< (nI k &&& 31) = nI (c * 2 ^ k) := pk_shlN _ k (sm31 hk) (by omega)
theorem nI_z {x : Nat} (h : x < 2 ^ 31) : nI x = 0 ↔ x = 0 := nI_eq (b := 0) h (by decide)
theorem bit_z {w k : Nat} (hw : w < 2 ^ 31) (hk : k < 31) : (nI w >>> (nI k &&& 31)) &&& 1 = 0 ↔ w.testBit k = false := by
  rw [shr_nI hw hk, and1_n, nI_z (by omega), Nat.testBit_eq_decide_div_mod_eq, decide_eq_false_iff_not]
  omega
theorem hR_n {w k : Nat} (hw : w < 2 ^ 31) (hk : k < 31) : hR (nI w) (nI k) = if w.testBit k = true then 1 else 0 := by
  unfold hR
  rw [shr_nI hw hk, and1_n]
  by_cases h : w.testBit k = true
  · rw [if_pos h, if_pos]
    rw [Nat.testBit_eq_decide_div_mod_eq, decide_eq_true_iff] at h
    rw [h]; rfl
  · rw [if_neg h, if_neg]
    intro q
    have q2 := (nI_eq (b := 1) (by omega) (by decide)).mp q
    exact h (by rw [Nat.testBit_eq_decide_div_mod_eq, decide_eq_true_iff]; exact q2)
/-- one edge, one way -/
def nS1 (A B m : Nat) : Nat := if m.testBit A = true then m ||| 2 ^ B else m
def nS (Q A B m : Nat) : Nat := if Q = 4 then nS1 B A (nS1 A B m) else nS1 A B m
theorem nS1_lt {A B m v : Nat} (hm : m < 2 ^ v) (hB : B < v) : nS1 A B m < 2 ^ v := by
  unfold nS1
  split
  · exact Nat.or_lt_two_pow hm (Nat.pow_lt_pow_right (by decide) hB)
  · exact hm
theorem nS_lt {Q A B m v : Nat} (hm : m < 2 ^ v) (hA : A < v) (hB : B < v) : nS Q A B m < 2 ^ v := by
  unfold nS
  split
  · exact nS1_lt (nS1_lt hm hB) hA
  · exact nS1_lt hm hB
theorem p2_31 {m v : Nat} (hm : m < 2 ^ v) (hv : v ≤ 9) : m < 512 := Nat.lt_of_lt_of_le hm (pow_le9 hv)
theorem shl_b {B : Nat} (hB : B < 9) : (1 : Int32) <<< (nI B &&& 31) = nI (2 ^ B) := shl1 (by omega)
theorem pw9 {B : Nat} (hB : B < 9) : 2 ^ B < 512 := Nat.lt_of_lt_of_le (Nat.pow_lt_pow_right (by decide) hB) (Nat.le_refl (2 ^ 9))
theorem or_b {m B : Nat} (hm : m < 512) (hB : B < 9) : nI m ||| ((1 : Int32) <<< (nI B &&& 31)) = nI (m ||| 2 ^ B) := by
  have := pw9 hB
  rw [shl_b hB, or_nI (by omega) (by omega)]
theorem cw1_n {y : Int32} {m A B : Nat} (hy : ¬ y &&& 1 = 0) (hm : m < 512) (hA : A < 9) (hB : B < 9) : cw1 y (nI m) (nI A) (nI B) = nI (nS1 A B m) := by
  unfold cw1 nS1
  rw [if_neg hy]
  by_cases h : m.testBit A = true
  · rw [if_pos h, if_neg (fun q => by rw [bit_z (by omega) (by omega), h] at q; exact absurd q (by decide)), or_b hm hB]
  · rw [if_neg h, if_pos ((bit_z (by omega) (by omega)).mpr (by simpa using h))]
theorem cw2_n {y : Int32} {m A B : Nat} (hy : ¬ y &&& 2 = 0) (hm : m < 512) (hA : A < 9) (hB : B < 9) : cw2 y (nI m) (nI A) (nI B) = nI (nS1 B A m) := by
  unfold cw2 nS1
  rw [if_neg hy]
  by_cases h : m.testBit B = true
  · rw [if_pos h, if_neg (fun q => by rw [bit_z (by omega) (by omega), h] at q; exact absurd q (by decide)), or_b hm hA]
  · rw [if_neg h, if_pos ((bit_z (by omega) (by omega)).mpr (by simpa using h))]
theorem cw_n {y : Int32} {Q m A B v : Nat} (hy : ¬ y &&& 1 = 0) (hy2 : y &&& 2 = 0 ↔ ¬ Q = 4) (hv : v ≤ 9) (hm : m < 2 ^ v) (hA : A < v) (hB : B < v) : cw y (nI m) (nI A) (nI B) = nI (nS Q A B m) := by
  unfold cw nS
  rw [cw1_n hy (p2_31 hm hv) (by omega) (by omega)]
  by_cases q : Q = 4
  · rw [if_pos q, cw2_n (fun z => hy2.mp z q) (p2_31 (nS1_lt hm hB) hv) (by omega) (by omega)]
  · rw [if_neg q, cw2_a (hy2.mpr q)]
theorem md_n {Q m A B v : Nat} (hQ : Q < 5) (hv : v ≤ 9) (hm : m < 2 ^ v) (hA : A < v) (hB : B < v) : md (nI m) (nI (100 * Q + 10 * A + B)) = nI (nS Q A B m) := by
  have e1 : md1 (nI m) (nI (100 * Q + 10 * A + B)) = nI (nS1 A B m) := by
    unfold md1 nS1
    rw [fO_n hQ (by omega) (by omega), tO_n hQ (by omega) (by omega), hR_n (by have := p2_31 hm hv; omega) (by omega)]
    by_cases h : m.testBit A = true
    · rw [if_pos h, if_pos h, if_neg (show ¬ (1 : Int32) = 0 from by decide), or_b (p2_31 hm hv) (by omega)]
    · rw [if_neg h, if_neg h, if_pos rfl, or_zero32]
  have hm1 := nS1_lt (A := A) hm hB
  unfold md nS
  rw [e1]
  unfold md2
  rw [fO_n hQ (by omega) (by omega), tO_n hQ (by omega) (by omega), lO_n hQ (by omega) (by omega), hR_n (by have := p2_31 hm1 hv; omega) (by omega)]
  by_cases q : Q = 4
  · rw [if_pos q, q, if_pos (show nI 4 = 4 from rfl)]
    generalize nS1 A B m = m1 at hm1 ⊢
    unfold nS1
    by_cases h : m1.testBit B = true
    · rw [if_pos h, if_pos h, if_neg (show ¬ (1 : Int32) = 0 from by decide)]
      exact or_b (p2_31 hm1 hv) (by omega)
    · rw [if_neg h, if_neg h, if_pos rfl, or_zero32]
  · have q4 : ¬ nI Q = 4 := fun z => q ((nI_eq (a := Q) (b := 4) (by omega) (by decide)).mp z)
    rw [if_neg q, if_neg q4]
    by_cases h : (nS1 A B m).testBit B = true
    · rw [if_pos h, if_neg (show ¬ (1 : Int32) = 0 from by decide), or_zero32]
    · rw [if_neg h, if_pos rfl, or_zero32]
def nN (Q A B : Nat → Nat) : Nat → Nat → Nat
  | 0, m => m
  | i + 1, m => nS (Q i) (A i) (B i) (nN Q A B i m)
def nR (Q A B : Nat → Nat) (n : Nat) : Nat → Nat → Nat
  | 0, m => m
  | q + 1, m => nN Q A B n (nR Q A B n q m)
theorem nN_lt {Q A B : Nat → Nat} {v m : Nat} (hm : m < 2 ^ v) : ∀ i, (∀ j, j < i → A j < v ∧ B j < v) → nN Q A B i m < 2 ^ v := by
  intro i
  induction i with
  | zero => intro _; exact hm
  | succ i ih =>
    intro h
    exact nS_lt (ih (fun j hj => h j (by omega))) (h i (by omega)).1 (h i (by omega)).2
theorem nR_lt {Q A B : Nat → Nat} {v m n : Nat} (hm : m < 2 ^ v) (h : ∀ j, j < n → A j < v ∧ B j < v) : ∀ q, nR Q A B n q m < 2 ^ v := by
  intro q
  induction q with
  | zero => exact hm
  | succ q ih => exact nN_lt ih n h
/-- bits stay -/
theorem nS1_in {A B m a : Nat} (h : m.testBit a = true) : (nS1 A B m).testBit a = true := by
  unfold nS1
  split
  · rw [Nat.testBit_or, h, Bool.true_or]
  · exact h
theorem nS_in {Q A B m a : Nat} (h : m.testBit a = true) : (nS Q A B m).testBit a = true := by
  unfold nS
  split
  · exact nS1_in (nS1_in h)
  · exact nS1_in h
theorem nN_in {Q A B : Nat → Nat} {m a : Nat} (h : m.testBit a = true) : ∀ i, (nN Q A B i m).testBit a = true := by
  intro i
  induction i with
  | zero => exact h
  | succ i ih => exact nS_in ih
/-- how many of the first k bits there are -/
def pcn (m : Nat) : Nat → Nat
  | 0 => 0
  | k + 1 => pcn m k + (m.testBit k).toNat
theorem b_le (b : Bool) : b.toNat ≤ 1 := by cases b <;> decide
theorem pcn_le {m : Nat} : ∀ k, pcn m k ≤ k := by
  intro k
  induction k with
  | zero => exact Nat.le_refl _
  | succ k ih => have := b_le (m.testBit k); rw [pcn]; omega
theorem b_sub {a b : Bool} (h : a = true → b = true) : a.toNat ≤ b.toNat := by
  cases a
  · exact Nat.zero_le _
  · rw [h rfl]; exact Nat.le_refl _
theorem pcn_sub {m m2 : Nat} (h : ∀ a, m.testBit a = true → m2.testBit a = true) : ∀ k, pcn m k ≤ pcn m2 k := by
  intro k
  induction k with
  | zero => exact Nat.le_refl _
  | succ k ih => have := b_sub (h k); rw [pcn, pcn]; omega
theorem pcn_eq {m m2 : Nat} (h : ∀ a, m.testBit a = true → m2.testBit a = true) : ∀ k, pcn m k = pcn m2 k → ∀ a, a < k → m.testBit a = m2.testBit a := by
  intro k
  induction k with
  | zero => intro _ a ha; omega
  | succ k ih =>
    intro e a ha
    rw [pcn, pcn] at e
    have h1 := pcn_sub h k
    have h2 := b_sub (h k)
    by_cases q : a = k
    · subst q
      have e2 : (m.testBit a).toNat = (m2.testBit a).toNat := by omega
      cases x : m.testBit a <;> cases y : m2.testBit a
      · rfl
      · rw [x, y] at e2; exact absurd e2 (by decide)
      · rw [x, y] at e2; exact absurd e2 (by decide)
      · rfl
    · exact ih (by omega) a (by omega)
theorem pcn_same {m m2 v : Nat} (hm : m < 2 ^ v) (hm2 : m2 < 2 ^ v) (h : ∀ a, m.testBit a = true → m2.testBit a = true) (e : pcn m v = pcn m2 v) : m = m2 := by
  apply Nat.eq_of_testBit_eq
  intro a
  rcases Nat.lt_or_ge a v with q | q
  · exact pcn_eq h v e a q
  · rw [Nat.testBit_lt_two_pow (Nat.lt_of_lt_of_le hm (Nat.pow_le_pow_right (by decide) q)), Nat.testBit_lt_two_pow (Nat.lt_of_lt_of_le hm2 (Nat.pow_le_pow_right (by decide) q))]
theorem pcn_pos {m a : Nat} (h : m.testBit a = true) : ∀ k, a < k → 1 ≤ pcn m k := by
  intro k
  induction k with
  | zero => intro q; omega
  | succ k ih =>
    intro q
    rw [pcn]
    by_cases e : a = k
    · subst e; rw [h]; show 1 ≤ pcn m a + 1; omega
    · have := ih (by omega); omega
/-- as many rounds as there are nodes less one are enough -/
theorem nR_stab {Q A B : Nat → Nat} {v m n a : Nat} (hm : m < 2 ^ v) (h : ∀ j, j < n → A j < v ∧ B j < v) (ha : m.testBit a = true) (hav : a < v) : nR Q A B n v m = nR Q A B n (v - 1) m := by
  have key : ∀ q, q + 1 ≤ pcn (nR Q A B n q m) v ∨ nR Q A B n (q + 1) m = nR Q A B n q m := by
    intro q
    induction q with
    | zero => exact Or.inl (pcn_pos ha v hav)
    | succ q ih =>
      rcases ih with w | w
      · have hs := pcn_sub (fun a z => nN_in (Q := Q) (A := A) (B := B) z n) (m := nR Q A B n q m) v
        have hs' : pcn (nR Q A B n q m) v ≤ pcn (nR Q A B n (q + 1) m) v := hs
        rcases Nat.lt_or_ge (pcn (nR Q A B n q m) v) (pcn (nR Q A B n (q + 1) m) v) with z | z
        · exact Or.inl (by omega)
        · have e : nR Q A B n q m = nR Q A B n (q + 1) m := pcn_same (nR_lt hm h q) (nR_lt hm h (q + 1)) (fun a z => nN_in z n) (by omega)
          refine Or.inr ?_
          rw [nR, ← e]
          exact e.symm
      · refine Or.inr ?_
        rw [nR, w]
        exact w
  obtain ⟨k, rfl⟩ : ∃ k, v = k + 1 := ⟨v - 1, by omega⟩
  rw [show k + 1 - 1 = k by omega]
  rcases key k with w | w
  · have h1 := pcn_le (m := nR Q A B n (k + 1) m) (k + 1)
    have hs : pcn (nR Q A B n k m) (k + 1) ≤ pcn (nR Q A B n (k + 1) m) (k + 1) := pcn_sub (fun a z => nN_in (Q := Q) (A := A) (B := B) z n) (k + 1)
    exact (pcn_same (nR_lt hm h k) (nR_lt hm h (k + 1)) (fun a z => nN_in z n) (by omega)).symm
  · exact w
/-- rows of numbers -/
def RW4 (g1 g2 g3 ea : Nat → Int32) (Q A B : Nat → Nat) (n v : Nat) : Prop := ∀ j, j < n → Q j < 5 ∧ A j < v ∧ B j < v ∧ g1 j = nI (Q j) ∧ g2 j = nI (A j) ∧ g3 j = nI (B j) ∧ ea j = nI (100 * Q j + 10 * A j + B j)
theorem FREL.rows {g1 g2 g3 ea : Nat → Int32} {n v : Nat} (hv : v ≤ 9) (h : FREL g1 g2 g3 ea n v) : RW4 g1 g2 g3 ea (fun j => (g1 j).toNatClampNeg) (fun j => (g2 j).toNatClampNeg) (fun j => (g3 j).toNatClampNeg) n v := fun j hj => by
  obtain ⟨q, a, b, h1, h2, h3, -, e1, e2, e3, e4⟩ := h j hj
  show (g1 j).toNatClampNeg < 5 ∧ (g2 j).toNatClampNeg < v ∧ (g3 j).toNatClampNeg < v ∧ g1 j = nI (g1 j).toNatClampNeg ∧ g2 j = nI (g2 j).toNatClampNeg ∧ g3 j = nI (g3 j).toNatClampNeg ∧ ea j = nI (100 * (g1 j).toNatClampNeg + 10 * (g2 j).toNatClampNeg + (g3 j).toNatClampNeg)
  rw [e1, e2, e3, nI_clamp (by omega), nI_clamp (by omega), nI_clamp (by omega)]
  exact ⟨h1, h2, h3, rfl, rfl, rfl, e4⟩
theorem mdN_n {g1 g2 g3 ea : Nat → Int32} {Q A B : Nat → Nat} {n v m : Nat} (hv : v ≤ 9) (hm : m < 2 ^ v) (h : RW4 g1 g2 g3 ea Q A B n v) : ∀ i, i ≤ n → mdN ea i (nI m) = nI (nN Q A B i m) := by
  intro i
  induction i with
  | zero => intro _; rfl
  | succ i ih =>
    intro hi
    obtain ⟨h1, h2, h3, -, -, -, h4⟩ := h i (by omega)
    rw [mdN, ih (by omega), h4, nN, md_n h1 hv (nN_lt hm i (fun j hj => ⟨(h j (by omega)).2.1, (h j (by omega)).2.2.1⟩)) h2 h3]
theorem mdR_n {g1 g2 g3 ea : Nat → Int32} {Q A B : Nat → Nat} {n v m : Nat} (hv : v ≤ 9) (hm : m < 2 ^ v) (h : RW4 g1 g2 g3 ea Q A B n v) : ∀ q, mdR ea n q (nI m) = nI (nR Q A B n q m) := by
  intro q
  induction q with
  | zero => rfl
  | succ q ih => rw [mdR, ih, mdN_n hv (nR_lt hm (fun j hj => ⟨(h j hj).2.1, (h j hj).2.2.1⟩) q) h n (Nat.le_refl _), nR]
theorem cwN_n {d : Int32} {g1 g2 g3 ea : Nat → Int32} {Q A B : Nat → Nat} {n v m : Nat} (hv : v ≤ 9) (hm : m < 2 ^ v) (h : RW4 g1 g2 g3 ea Q A B n v) (hd : ∀ i, i < n → ¬ (d >>> ((nI (2 * i)) &&& 31)) &&& 1 = 0 ∧ ((d >>> ((nI (2 * i)) &&& 31)) &&& 2 = 0 ↔ ¬ Q i = 4)) : ∀ i, i ≤ n → cwN d g2 g3 i (nI m) = nI (nN Q A B i m) := by
  intro i
  induction i with
  | zero => intro _; rfl
  | succ i ih =>
    intro hi
    obtain ⟨h1, h2, h3, -, e2, e3, -⟩ := h i (by omega)
    rw [cwN, ih (by omega), e2, e3, nN, cw_n (hd i (by omega)).1 (hd i (by omega)).2 hv (nN_lt hm i (fun j hj => ⟨(h j (by omega)).2.1, (h j (by omega)).2.2.1⟩)) h2 h3]
theorem cwR_n {d : Int32} {g1 g2 g3 ea : Nat → Int32} {Q A B : Nat → Nat} {n v m : Nat} (hv : v ≤ 9) (hm : m < 2 ^ v) (h : RW4 g1 g2 g3 ea Q A B n v) (hd : ∀ i, i < n → ¬ (d >>> ((nI (2 * i)) &&& 31)) &&& 1 = 0 ∧ ((d >>> ((nI (2 * i)) &&& 31)) &&& 2 = 0 ↔ ¬ Q i = 4)) : ∀ q, cwR d g2 g3 n q (nI m) = nI (nR Q A B n q m) := by
  intro q
  induction q with
  | zero => rfl
  | succ q ih => rw [cwR, ih, cwN_n hv (nR_lt hm (fun j hj => ⟨(h j hj).2.1, (h j hj).2.2.1⟩) q) h hd n (Nat.le_refl _), nR]
theorem wy_ml {d : Int32} {g1 g2 g3 ea : Nat → Int32} {Q A B : Nat → Nat} {n v : Nat} (hv2 : 2 ≤ v) (hv : v ≤ 9) (h : RW4 g1 g2 g3 ea Q A B n v) (hd : ∀ i, i < n → ¬ (d >>> ((nI (2 * i)) &&& 31)) &&& 1 = 0 ∧ ((d >>> ((nI (2 * i)) &&& 31)) &&& 2 = 0 ↔ ¬ Q i = 4)) : wyF d g2 g3 n v = mlF ea n v := by
  have hAB : ∀ j, j < n → A j < v ∧ B j < v := fun j hj => ⟨(h j hj).2.1, (h j hj).2.2.1⟩
  have h4 : 2 ^ 2 ≤ 2 ^ v := Nat.pow_le_pow_right (by decide) hv2
  have f : ∀ a b : Nat, a < 2 → b < 2 → (cmF (nI a) (nI b) d g2 g3 n v = 0 ↔ hR (mdR ea n v ((1 : Int32) <<< (nI a &&& 31))) (nI b) = 0) := fun a b ha hb => by
    have hp : 2 ^ a < 2 ^ v := Nat.pow_lt_pow_right (by decide) (by omega)
    have hlt := nR_lt (Q := Q) hp hAB v
    have h512 := p2_31 hlt hv
    unfold cmF
    rw [shl_b (by omega), mdR_n hv hp h, cwR_n hv hp h hd, ← nR_stab hp hAB (a := a) (by rw [Nat.testBit_two_pow]; simp) (by omega), hR_n (by omega) (by omega)]
    by_cases q : (nR Q A B n v (2 ^ a)).testBit b = true
    · rw [if_pos q, if_neg (fun z => by rw [bit_z (by omega) (by omega), q] at z; exact absurd z (by decide))]
    · rw [if_neg q, if_pos ((bit_z (by omega) (by omega)).mpr (by simpa using q))]
  have e1 := f 0 1 (by decide) (by decide)
  have e2 := f 1 0 (by decide) (by decide)
  have e1' : cmF 0 1 d g2 g3 n v = 0 ↔ hR (mdR ea n v ((1 : Int32) <<< (0 &&& 31))) 1 = 0 := e1
  have e2' : cmF 1 0 d g2 g3 n v = 0 ↔ hR (mdR ea n v ((1 : Int32) <<< (1 &&& 31))) 0 = 0 := e2
  unfold wyF mlF
  by_cases q1 : cmF 0 1 d g2 g3 n v = 0 <;> by_cases q2 : cmF 1 0 d g2 g3 n v = 0
  · rw [if_pos q1, if_pos q2, if_pos (e1'.mp q1), if_pos (e2'.mp q2)]
  · rw [if_pos q1, if_neg q2, if_pos (e1'.mp q1), if_neg (fun z => q2 (e2'.mpr z))]
  · rw [if_neg q1, if_pos q2, if_neg (fun z => q1 (e1'.mpr z)), if_pos (e2'.mp q2)]
  · rw [if_neg q1, if_neg q2, if_neg (fun z => q1 (e1'.mpr z)), if_neg (fun z => q2 (e2'.mpr z))]
/-- digits by four -/
def wN (c : Nat → Nat) : Nat → Nat
  | 0 => 0
  | i + 1 => wN c i + c i * 4 ^ i
theorem wN_lt {c : Nat → Nat} : ∀ n, (∀ j, j < n → c j < 4) → wN c n < 4 ^ n := by
  intro n
  induction n with
  | zero => intro _; exact Nat.one_pos
  | succ n ih =>
    intro h
    have h1 := ih (fun j hj => h j (by omega))
    have h2 := h n (by omega)
    have h3 : c n * 4 ^ n ≤ 3 * 4 ^ n := Nat.mul_le_mul_right _ (by omega)
    rw [wN, Nat.pow_succ]
    omega
theorem wN_dig {c : Nat → Nat} : ∀ n, (∀ j, j < n → c j < 4) → ∀ i, i < n → wN c n / 4 ^ i % 4 = c i := by
  intro n
  induction n with
  | zero => intro _ i hi; omega
  | succ n ih =>
    intro h i hi
    have hp : 0 < 4 ^ i := Nat.pow_pos (by decide)
    rw [wN]
    by_cases e : i = n
    · subst e
      rw [Nat.add_mul_div_right _ _ hp, Nat.div_eq_of_lt (wN_lt i (fun j hj => h j (by omega))), Nat.zero_add, Nat.mod_eq_of_lt (h i (by omega))]
    · have e2 : c n * 4 ^ n = (c n * 4 ^ (n - i - 1) * 4) * 4 ^ i := by
        rw [Nat.mul_assoc, Nat.mul_assoc]
        congr 1
        rw [show 4 * 4 ^ i = 4 ^ (i + 1) from by rw [Nat.pow_succ, Nat.mul_comm], ← Nat.pow_add]
        congr 1
        omega
      rw [e2, Nat.add_mul_div_right _ _ hp, Nat.add_mul_mod_self_right]
      exact ih (fun j hj => h j (by omega)) i (by omega)
theorem p4_2 (i : Nat) : 4 ^ i = 2 ^ (2 * i) := by rw [Nat.pow_mul]
theorem or_add {a c i : Nat} (ha : a < 4 ^ i) : a ||| c * 4 ^ i = a + c * 4 ^ i := by
  rw [p4_2] at ha ⊢
  rw [Nat.or_comm, Nat.mul_comm, ← Nat.two_pow_add_eq_or_of_lt ha, Nat.add_comm]
theorem p4_12 {i : Nat} (hi : i ≤ 12) : 4 ^ i ≤ 16777216 := Nat.le_trans (Nat.pow_le_pow_right (by decide) hi) (by decide)
theorem ow_step {w c i : Nat} (hi : i < 12) (hw : w < 4 ^ i) (hc : c < 4) : nI w ||| (nI c <<< (nI (2 * i) &&& 31)) = nI (w + c * 4 ^ i) := by
  have h12 := p4_12 (i := i + 1) (by omega)
  rw [Nat.pow_succ] at h12
  have h3 : c * 4 ^ i ≤ 3 * 4 ^ i := Nat.mul_le_mul_right _ (by omega)
  rw [shl_nI (by omega) (by rw [← p4_2]; omega), ← p4_2, or_nI (by omega) (by omega), or_add hw]
theorem owW_n {g1 : Nat → Int32} {Q : Nat → Nat} {n : Nat} (hn : n ≤ 12) (h : ∀ j, j < n → g1 j = nI (Q j) ∧ Q j < 5) : ∀ i, i ≤ n → owW g1 i = nI (wN (fun j => if Q j = 3 then 1 else 3) i) := by
  intro i
  induction i with
  | zero => intro _; rfl
  | succ i ih =>
    intro hi
    have hlt := wN_lt (c := fun j => if Q j = 3 then 1 else 3) i (fun j _ => by show (if Q j = 3 then 1 else 3) < 4; split <;> decide)
    rw [owW, ih (by omega), (h i (by omega)).1, wN]
    by_cases e : Q i = 3
    · rw [e, if_pos (show nI 3 = 3 from rfl), if_pos rfl]
      exact ow_step (c := 1) (by omega) hlt (by decide)
    · have e3 : ¬ nI (Q i) = 3 := fun z => e ((nI_eq (a := Q i) (b := 3) (by have := (h i (by omega)).2; omega) (by decide)).mp z)
      rw [if_neg e3, if_neg e]
      exact ow_step (c := 3) (by omega) hlt (by decide)
theorem owH_n {g1 : Nat → Int32} {Q : Nat → Nat} {n : Nat} (hn : n ≤ 12) (h : ∀ j, j < n → g1 j = nI (Q j) ∧ Q j < 5) : ∀ i, i ≤ n → owH g1 i = nI (wN (fun j => if Q j = 3 then 2 else 3) i) := by
  intro i
  induction i with
  | zero => intro _; rfl
  | succ i ih =>
    intro hi
    have hlt := wN_lt (c := fun j => if Q j = 3 then 2 else 3) i (fun j _ => by show (if Q j = 3 then 2 else 3) < 4; split <;> decide)
    rw [owH, ih (by omega), (h i (by omega)).1, wN]
    by_cases e : Q i = 3
    · rw [e, if_pos (show nI 3 = 3 from rfl), if_pos rfl]
      exact ow_step (c := 2) (by omega) hlt (by decide)
    · have e3 : ¬ nI (Q i) = 3 := fun z => e ((nI_eq (a := Q i) (b := 3) (by have := (h i (by omega)).2; omega) (by decide)).mp z)
      rw [if_neg e3, if_neg e]
      exact ow_step (c := 3) (by omega) hlt (by decide)
theorem and2_nat (x : Nat) : x &&& 2 = if x.testBit 1 = true then 2 else 0 := by
  apply Nat.eq_of_testBit_eq
  intro j
  rw [Nat.testBit_and, show (2 : Nat) = 2 ^ 1 from rfl, Nat.testBit_two_pow]
  by_cases e : 1 = j
  · subst e
    by_cases h : x.testBit 1 = true
    · rw [h, if_pos rfl]; decide
    · rw [if_neg h]
      have h2 : x.testBit 1 = false := by simpa using h
      rw [h2]; decide
  · rw [show decide (1 = j) = false from by simpa using e, Bool.and_false]
    split
    · rw [show (2 : Nat) ^ 1 = 2 ^ 1 from rfl, Nat.testBit_two_pow]
      exact (by simpa using e : decide (1 = j) = false).symm
    · exact (Nat.zero_testBit j).symm
theorem and2_n {x : Nat} (hx : x < 2 ^ 31) : nI x &&& 2 = 0 ↔ x.testBit 1 = false := by
  have e1 : nI x &&& 2 = nI (x &&& 2) := by
    apply Int32.toBitVec_inj.mp
    apply BitVec.eq_of_toNat_eq
    have e1 : (nI x &&& 2).toBitVec = (nI x).toBitVec &&& (2 : Int32).toBitVec := rfl
    have e2 : ∀ n, (nI n).toBitVec.toNat = n % 2 ^ 32 := fun n => rfl
    have h3 : x &&& 2 ≤ x := Nat.and_le_left
    rw [e1, BitVec.toNat_and, e2, e2, show (2 : Int32).toBitVec.toNat = 2 from rfl, Nat.mod_eq_of_lt (by omega), Nat.mod_eq_of_lt (by omega)]
  rw [e1, and2_nat]
  by_cases h : x.testBit 1 = true
  · rw [if_pos h, h]
    exact ⟨fun q => absurd q (by decide), fun q => absurd q (by decide)⟩
  · rw [if_neg h]
    exact ⟨fun _ => by simpa using h, fun _ => rfl⟩
theorem tb_dig {w i c u : Nat} (h : w / 4 ^ i % 4 = c) (hu : u < 2) : w.testBit (2 * i + u) = decide (c / 2 ^ u % 2 = 1) := by
  rw [Nat.testBit_eq_decide_div_mod_eq, Nat.pow_add, ← p4_2, ← Nat.div_div_eq_div_mul]
  congr 1
  rcases (show u = 0 ∨ u = 1 by omega) with rfl | rfl
  · rw [Nat.pow_zero, Nat.div_one, Nat.div_one, ← h, Nat.mod_mod_of_dvd _ (by decide)]
  · have e : w / 4 ^ i / 2 ^ 1 % 2 = c / 2 ^ 1 % 2 := by
      rw [← h]
      omega
    rw [e]
theorem tb_dig2 {w i c : Nat} (h : w / 4 ^ i % 4 = c) : w.testBit (2 * i + 1) = decide (c / 2 ^ 1 % 2 = 1) := tb_dig h (by decide)
theorem way_ok {g1 : Nat → Int32} {Q : Nat → Nat} {n : Nat} (hn : n ≤ 12) (h : ∀ j, j < n → g1 j = nI (Q j) ∧ Q j < 5) (h3 : ∀ j, j < n → 3 ≤ Q j) : ∀ i, i < n → ¬ (owW g1 n >>> ((nI (2 * i)) &&& 31)) &&& 1 = 0 ∧ ((owW g1 n >>> ((nI (2 * i)) &&& 31)) &&& 2 = 0 ↔ ¬ Q i = 4) := fun i hi => by
  have hc : ∀ j, j < n → (fun j => if Q j = 3 then 1 else 3) j < 4 := fun j _ => by show (if Q j = 3 then 1 else 3) < 4; split <;> decide
  have hlt := wN_lt (c := fun j => if Q j = 3 then 1 else 3) n hc
  have hdg := wN_dig (c := fun j => if Q j = 3 then 1 else 3) n hc i hi
  have h12 := p4_12 hn
  have hle : wN (fun j => if Q j = 3 then 1 else 3) n / 2 ^ (2 * i) ≤ wN (fun j => if Q j = 3 then 1 else 3) n := Nat.div_le_self _ _
  rw [owW_n hn h n (Nat.le_refl _)]
  constructor
  · rw [bit_z (by omega) (by omega), show 2 * i = 2 * i + 0 from rfl, tb_dig hdg (by decide)]
    show ¬ decide ((if Q i = 3 then 1 else 3) / 2 ^ 0 % 2 = 1) = false
    split <;> decide
  · rw [shr_nI (by omega) (by omega), and2_n (by omega), Nat.testBit_div_two_pow, Nat.add_comm 1 (2 * i), tb_dig2 hdg]
    show decide ((if Q i = 3 then 1 else 3) / 2 ^ 1 % 2 = 1) = false ↔ ¬ Q i = 4
    have := h3 i hi
    have := (h i hi).2
    by_cases e : Q i = 3
    · rw [if_pos e]
      exact ⟨fun _ => by omega, fun _ => by decide⟩
    · rw [if_neg e]
      exact ⟨fun q => absurd q (by decide), fun q => absurd (show Q i = 4 by omega) q⟩
/-- a colouring that is right -/
def colP (Q A B : Nat → Nat) (n c : Nat) : Prop := ∀ i, i < n → Q i = 4 ∨ ¬ c.testBit (A i) = c.testBit (B i)
theorem xor1_n {x y : Nat} : (nI x ^^^ nI y) &&& 1 = nI ((x ^^^ y) % 2) := by
  apply Int32.toBitVec_inj.mp
  apply BitVec.eq_of_toNat_eq
  have e1 : ((nI x ^^^ nI y) &&& 1).toBitVec = ((nI x).toBitVec ^^^ (nI y).toBitVec) &&& (1 : Int32).toBitVec := rfl
  have e2 : ∀ n, (nI n).toBitVec.toNat = n % 2 ^ 32 := fun n => rfl
  rw [e1, BitVec.toNat_and, BitVec.toNat_xor, e2, e2, e2, show (1 : Int32).toBitVec.toNat = 1 from rfl, Nat.and_one_is_mod]
  rw [Nat.mod_eq_of_lt (show (x ^^^ y) % 2 < 2 ^ 32 by omega)]
  have f : ∀ a : Nat, a % 2 = (a.testBit 0).toNat := fun a => by
    rw [Nat.testBit_zero]
    rcases Nat.mod_two_eq_zero_or_one a with q | q <;> rw [q] <;> rfl
  rw [f, f, Nat.testBit_xor, Nat.testBit_xor]
  have g : ∀ a : Nat, (a % 2 ^ 32).testBit 0 = a.testBit 0 := fun a => by
    rw [Nat.testBit_zero, Nat.testBit_zero, Nat.mod_mod_of_dvd _ (by decide)]
  rw [g, g]
theorem un_n {c A B : Nat} (hc : c < 512) (hA : A < 9) (hB : B < 9) : ((nI c >>> (nI A &&& 31)) ^^^ (nI c >>> (nI B &&& 31))) &&& 1 = nI (if c.testBit A = c.testBit B then 0 else 1) := by
  rw [shr_nI (by omega) (by omega), shr_nI (by omega) (by omega), xor1_n]
  congr 1
  have f : ∀ a : Nat, a % 2 = (a.testBit 0).toNat := fun a => by
    rw [Nat.testBit_zero]
    rcases Nat.mod_two_eq_zero_or_one a with q | q <;> rw [q] <;> rfl
  rw [f, Nat.testBit_xor, Nat.testBit_div_two_pow, Nat.testBit_div_two_pow, Nat.zero_add, Nat.zero_add]
  cases c.testBit A <;> cases c.testBit B <;> rfl
theorem al_col {g1 g2 g3 ea : Nat → Int32} {Q A B : Nat → Nat} {n v c : Nat} (hn : n ≤ 12) (hv : v ≤ 9) (h : RW4 g1 g2 g3 ea Q A B n v) (h3 : ∀ j, j < n → 3 ≤ Q j) (hc : c < 512) : alP (nI c) (owH g1 n) g2 g3 n ↔ colP Q A B n c := by
  have hc4 : ∀ j, j < n → (fun j => if Q j = 3 then 2 else 3) j < 4 := fun j _ => by show (if Q j = 3 then 2 else 3) < 4; split <;> decide
  have hlt := wN_lt (c := fun j => if Q j = 3 then 2 else 3) n hc4
  have h12 := p4_12 hn
  have key : ∀ i, i < n → (¬ (owH g1 n >>> (((nI (2 * i)) + (((nI c >>> ((g2 i) &&& 31)) ^^^ (nI c >>> ((g3 i) &&& 31))) &&& 1)) &&& 31)) &&& 1 = 0 ↔ (Q i = 4 ∨ ¬ c.testBit (A i) = c.testBit (B i))) := fun i hi => by
    obtain ⟨a1, a2, a3, a4, a5, a6, -⟩ := h i hi
    have hdg := wN_dig (c := fun j => if Q j = 3 then 2 else 3) n hc4 i hi
    have := h3 i hi
    rw [owH_n hn (fun j hj => ⟨(h j hj).2.2.2.1, (h j hj).1⟩) n (Nat.le_refl _), a5, a6, un_n hc (by omega) (by omega), nI_add]
    by_cases q : c.testBit (A i) = c.testBit (B i)
    · rw [if_pos q, bit_z (by omega) (by omega), tb_dig hdg (by decide)]
      show ¬ decide ((if Q i = 3 then 2 else 3) / 2 ^ 0 % 2 = 1) = false ↔ _
      by_cases e : Q i = 3
      · rw [if_pos e]
        exact ⟨fun z => absurd (by decide) z, fun z => by rcases z with z | z; omega; exact absurd q z⟩
      · rw [if_neg e]
        exact ⟨fun _ => Or.inl (by omega), fun _ => by decide⟩
    · rw [if_neg q, bit_z (by omega) (by omega), tb_dig hdg (by decide)]
      show ¬ decide ((if Q i = 3 then 2 else 3) / 2 ^ 1 % 2 = 1) = false ↔ _
      refine ⟨fun _ => Or.inr q, fun _ => ?_⟩
      split <;> decide
  exact ⟨fun w i hi => (key i hi).mp (w i hi), fun w i hi => (key i hi).mpr (w i hi)⟩
theorem mc_col {g1 g2 g3 ea : Nat → Int32} {Q A B : Nat → Nat} {n v c : Nat} (hv : v ≤ 9) (h : RW4 g1 g2 g3 ea Q A B n v) (hc : c < 512) : mcP (nI c) ea n ↔ colP Q A B n c := by
  have key : ∀ i, i < n → ((lO (ea i) = 4 ∨ ¬ hR (nI c) (fO (ea i)) = hR (nI c) (tO (ea i))) ↔ (Q i = 4 ∨ ¬ c.testBit (A i) = c.testBit (B i))) := fun i hi => by
    obtain ⟨a1, a2, a3, -, -, -, a7⟩ := h i hi
    rw [a7, lO_n a1 (by omega) (by omega), fO_n a1 (by omega) (by omega), tO_n a1 (by omega) (by omega), hR_n (by omega) (by omega), hR_n (by omega) (by omega), show (4 : Int32) = nI 4 from rfl, nI_eq (by omega) (by omega)]
    cases c.testBit (A i) <;> cases c.testBit (B i) <;> simp
  exact ⟨fun w i hi => (key i hi).mp (w i hi), fun w i hi => (key i hi).mpr (w i hi)⟩
theorem col_not {Q A B : Nat → Nat} {n v c : Nat} (hc : c < 2 ^ v) (hAB : ∀ j, j < n → A j < v ∧ B j < v) (h : colP Q A B n c) : colP Q A B n (2 ^ v - (c + 1)) := fun i hi => by
  rcases h i hi with q | q
  · exact Or.inl q
  · refine Or.inr ?_
    rw [Nat.testBit_two_pow_sub_succ hc, Nat.testBit_two_pow_sub_succ hc]
    simp only [(hAB i hi).1, (hAB i hi).2, decide_true, Bool.true_and]
    intro e
    apply q
    cases x : c.testBit (A i) <;> cases y : c.testBit (B i) <;> rw [x, y] at e <;> first | rfl | exact absurd e (by decide)
theorem hu_mc {g1 g2 g3 ea : Nat → Int32} {Q A B : Nat → Nat} {n v : Nat} {a b : Int32} (hn : n ≤ 12) (hv2 : 2 ≤ v) (hv : v ≤ 9) (h : RW4 g1 g2 g3 ea Q A B n v) (h3 : ∀ j, j < n → 3 ≤ Q j) (hu : HUq (owH g1 n) g2 g3 n (2 ^ (v - 1)) a) (hm : MCq ea n (2 ^ v) b) : a <<< (2 &&& 31) = b := by
  have hAB : ∀ j, j < n → A j < v ∧ B j < v := fun j hj => ⟨(h j hj).2.1, (h j hj).2.2.1⟩
  have hp := pow_half (v := v) (by omega)
  have h9 := pow_le9 hv
  obtain ⟨x, hx, rfl, x0, x1⟩ := hu
  obtain ⟨y, hy, rfl, y0, y1⟩ := hm
  have hb0 : ∀ c : Nat, c < 512 → hR (nI c) 0 = if c.testBit 0 = true then 1 else 0 := fun c hc => hR_n (k := 0) (by omega) (by decide)
  have hb1 : ∀ c : Nat, c < 512 → hR (nI c) 1 = if c.testBit 1 = true then 1 else 0 := fun c hc => hR_n (k := 1) (by omega) (by decide)
  have ev : ∀ k : Nat, (2 * k).testBit 0 = false := fun k => by rw [Nat.testBit_zero]; simp
  -- a colouring, and one whose first node has colour 0
  have low : ∀ c, c < 2 ^ v → colP Q A B n c → ∃ k, k < 2 ^ (v - 1) ∧ colP Q A B n (2 * k) ∧ ((2 * k).testBit 1 = true ↔ ¬ c.testBit 0 = c.testBit 1) := fun c hc hcol => by
    by_cases e : c.testBit 0 = true
    · have hc2 : 2 ^ v - (c + 1) < 2 ^ v := by omega
      have e0 : (2 ^ v - (c + 1)).testBit 0 = false := by
        rw [Nat.testBit_two_pow_sub_succ hc, e]
        simp
      have e1 : (2 ^ v - (c + 1)).testBit 1 = !c.testBit 1 := by
        rw [Nat.testBit_two_pow_sub_succ hc]
        rw [show decide (1 < v) = true from decide_eq_true (by omega), Bool.true_and]
      have e2 : (2 ^ v - (c + 1)) % 2 = 0 := by
        rw [Nat.testBit_zero, decide_eq_false_iff_not] at e0
        omega
      refine ⟨(2 ^ v - (c + 1)) / 2, by omega, ?_, ?_⟩
      · rw [show 2 * ((2 ^ v - (c + 1)) / 2) = 2 ^ v - (c + 1) by omega]
        exact col_not hc hAB hcol
      · rw [show 2 * ((2 ^ v - (c + 1)) / 2) = 2 ^ v - (c + 1) by omega, e1, e]
        cases c.testBit 1 <;> simp
    · have e' : c.testBit 0 = false := by simpa using e
      have e2 : c % 2 = 0 := by
        rw [Nat.testBit_zero, decide_eq_false_iff_not] at e'
        omega
      refine ⟨c / 2, by omega, ?_, ?_⟩
      · rw [show 2 * (c / 2) = c by omega]; exact hcol
      · rw [show 2 * (c / 2) = c by omega, e']
        cases c.testBit 1 <;> simp
  have k0 : x.testBit 0 = true ↔ y.testBit 0 = true := by
    rw [x0, y0]
    constructor
    · rintro ⟨k, hk, h1, h2⟩
      refine ⟨2 * k, by omega, (mc_col hv h (by omega)).mpr ((al_col hn hv h h3 (by omega)).mp h1), ?_⟩
      rw [hb0 _ (by omega), hb1 _ (by omega), ev, (and2_n (by omega)).mp h2]
    · rintro ⟨c, hc, h1, h2⟩
      obtain ⟨k, hk, h4, h5⟩ := low c hc ((mc_col hv h (by omega)).mp h1)
      refine ⟨k, hk, (al_col hn hv h h3 (by omega)).mpr h4, (and2_n (by omega)).mpr ?_⟩
      rw [hb0 _ (by omega), hb1 _ (by omega)] at h2
      have h6 : c.testBit 0 = c.testBit 1 := by
        cases p : c.testBit 0 <;> cases q : c.testBit 1 <;> rw [p, q] at h2 <;> first | rfl | exact absurd h2 (by decide)
      have h7 : ¬ (2 * k).testBit 1 = true := fun z => h5.mp z h6
      simpa using h7
  have k1 : x.testBit 1 = true ↔ y.testBit 1 = true := by
    rw [x1, y1]
    constructor
    · rintro ⟨k, hk, h1, h2⟩
      refine ⟨2 * k, by omega, (mc_col hv h (by omega)).mpr ((al_col hn hv h h3 (by omega)).mp h1), ?_⟩
      have h3' : (2 * k).testBit 1 = true := by
        have : ¬ (2 * k).testBit 1 = false := fun z => h2 ((and2_n (by omega)).mpr z)
        simpa using this
      rw [hb0 _ (by omega), hb1 _ (by omega), ev, h3']
      decide
    · rintro ⟨c, hc, h1, h2⟩
      obtain ⟨k, hk, h4, h5⟩ := low c hc ((mc_col hv h (by omega)).mp h1)
      refine ⟨k, hk, (al_col hn hv h h3 (by omega)).mpr h4, fun z => ?_⟩
      have h6 : ¬ c.testBit 0 = c.testBit 1 := fun e => h2 (by rw [hb0 _ (by omega), hb1 _ (by omega), e])
      have h7 := h5.mpr h6
      rw [(and2_n (by omega)).mp z] at h7
      exact absurd h7 (by decide)
  have hxy : x = y := by
    apply Nat.eq_of_testBit_eq
    intro j
    rcases (show j = 0 ∨ j = 1 ∨ 2 ≤ j by omega) with q | q | q
    · subst q
      cases p : x.testBit 0 <;> cases r : y.testBit 0 <;> rw [p, r] at k0 <;> simp_all
    · subst q
      cases p : x.testBit 1 <;> cases r : y.testBit 1 <;> rw [p, r] at k1 <;> simp_all
    · have hx4 : x < 2 ^ j := Nat.lt_of_lt_of_le hx (show 2 ^ 2 ≤ 2 ^ j from Nat.pow_le_pow_right (by decide) q)
      have hy4 : y < 2 ^ j := Nat.lt_of_lt_of_le hy (show 2 ^ 2 ≤ 2 ^ j from Nat.pow_le_pow_right (by decide) q)
      rw [Nat.testBit_lt_two_pow hx4, Nat.testBit_lt_two_pow hy4]
  subst hxy
  have : ∀ x, x < 4 → nI x <<< (2 &&& 31) = nI (4 * x) := by decide +kernel
  exact this x hx
/-- no open edge is left -/
theorem opE_0 {x : Nat → Int32} {n : Nat} (hn : n ≤ 12) (h : opE x n = 0) : ∀ i, i < n → opn (x i) = 0 := by
  have key : ∀ k, k ≤ n → ∃ c, c ≤ k ∧ opE x k = nI c ∧ (c = 0 → ∀ i, i < k → opn (x i) = 0) := by
    intro k
    induction k with
    | zero => intro _; exact ⟨0, Nat.le_refl _, rfl, fun _ i hi => absurd hi (by omega)⟩
    | succ k ih =>
      intro hk
      obtain ⟨c, h1, h2, h3⟩ := ih (by omega)
      by_cases e : opn (x k) = 0
      · refine ⟨c, by omega, ?_, fun q i hi => ?_⟩
        · rw [opE_a e, h2]
          exact nI_add c 0
        · by_cases z : i = k
          · subst z; exact e
          · exact h3 q i (by omega)
      · refine ⟨c + 1, by omega, ?_, fun q => absurd q (by omega)⟩
        rw [opE_b e, h2]
        exact nI_add c 1
  obtain ⟨c, h1, h2, h3⟩ := key n (Nat.le_refl _)
  rw [h2] at h
  exact h3 ((nI_z (by omega)).mp h)
theorem kd_rel {g1 g2 g3 ea : Nat → Int32} {n v : Nat} {a b : Int32} (hf : FgI n v) (hF : FREL g1 g2 g3 ea n v) (h : KdC g1 g2 g3 n v a) (h2 : KdM ea n v b) : a = b := by
  have hn := hf.1
  have hv := hf.2.1
  have e : isD g1 n = mDn ea n := by
    unfold isD mDn
    rw [op_rel hv n hF]
  rcases h with ⟨h1, rfl⟩ | ⟨h1, h3⟩
  · rcases h2 with ⟨-, rfl⟩ | ⟨w, -⟩
    · rfl
    · rw [← e] at w; exact absurd h1 w
  · rcases h2 with ⟨w, -⟩ | ⟨-, c, hc, rfl⟩
    · rw [← e] at w; exact absurd w h1
    · obtain ⟨u, hu, rfl⟩ := h3
      have hop : opE g1 n = 0 ∧ ¬ n = 0 := by
        unfold isD at h1
        by_cases q : nI n ≤ 0
        · rw [if_pos q] at h1; exact absurd rfl h1
        · rw [if_neg q] at h1
          refine ⟨?_, fun z => q (by rw [z]; decide)⟩
          by_cases q2 : opE g1 n = 0
          · exact q2
          · rw [if_neg q2] at h1; exact absurd rfl h1
      have hv2 : 2 ≤ v := by
        rcases hf.2.2 with q | q
        · exact absurd q hop.2
        · exact q
      have hR := hF.rows hv
      have h0 := opE_0 hn hop.1
      have h3 : ∀ j, j < n → 3 ≤ (fun j => (g1 j).toNatClampNeg) j := fun j hj => by
        have hj3 := h0 j hj
        obtain ⟨q5, -, -, e1, -⟩ := hR j hj
        show 3 ≤ (g1 j).toNatClampNeg
        rcases Nat.lt_or_ge (g1 j).toNatClampNeg 3 with z | z
        · rw [e1] at hj3
          rw [opn, if_neg (nI_pos (by omega)), if_neg (fun q => by have := leN (a := 3) (b := (g1 j).toNatClampNeg) (by omega) (by omega) q; omega)] at hj3
          exact absurd hj3 (by decide)
        · exact z
      rw [wy_ml hv2 hv hR (way_ok hn (fun j hj => ⟨(hR j hj).2.2.2.1, (hR j hj).1⟩) h3), hu_mc hn hv2 hv hR h3 hu hc]
