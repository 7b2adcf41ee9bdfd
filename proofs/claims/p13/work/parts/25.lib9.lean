/-! the reference's own words -/
def wi (x a b : Int32) : Int32 := if x < a then 0 else if b < x then 0 else 1
theorem wi_01 (x a b : Int32) : wi x a b = 0 ∨ wi x a b = 1 := by
  unfold wi
  split
  · exact Or.inl rfl
  · split
    · exact Or.inl rfl
    · exact Or.inr rfl
theorem wi_p {x a b : Int32} (h : ¬ wi x a b = 0) : ¬ x < a ∧ ¬ b < x := by
  unfold wi at h
  by_cases h1 : x < a
  · rw [if_pos h1] at h; exact absurd rfl h
  · rw [if_neg h1] at h
    by_cases h2 : b < x
    · rw [if_pos h2] at h; exact absurd rfl h
    · exact ⟨h1, h2⟩
theorem lt16z {z : Nat} (hz : z ≤ 16) (c : ¬ nI z = 16) : z < 16 := by
  rcases Nat.lt_or_ge z 16 with q | q
  · exact q
  · have : z = 16 := by omega
    subst this
    exact absurd rfl c
/-- a number between two that are written -/
theorem wi_rng {x : Int32} {a b : Nat} (hb : b < 2147483648) (ha : a ≤ b) (h : ¬ wi x (nI a) (nI b) = 0) : ∃ k, a ≤ k ∧ k ≤ b ∧ x = nI k := by
  obtain ⟨h1, h2⟩ := wi_p h
  have h0 : ¬ x < 0 := fun q => h1 (by
    have : (0 : Int32) ≤ nI a := nI_pos' (by omega)
    simp only [Int32.lt_iff_toInt_lt, Int32.le_iff_toInt_le] at q this ⊢
    omega)
  obtain ⟨j, hj, e⟩ := nI_of h0
  subst e
  exact ⟨j, nltN (by omega) (by omega) h1, nltN (by omega) (by omega) h2, rfl⟩
/-- an index below a count -/
theorem wi_ix {x : Int32} {r : Nat} (hr : r < 1000) (h : ¬ wi x 0 (nI r - 1) = 0) : ∃ j, j < r ∧ x = nI j := by
  obtain ⟨h1, h2⟩ := wi_p h
  obtain ⟨j, hj, e⟩ := nI_of h1
  subst e
  refine ⟨j, ?_, rfl⟩
  rcases Nat.lt_or_ge j r with q | q
  · exact q
  · refine absurd ?_ h2
    by_cases h0 : r = 0
    · subst h0
      simp only [Int32.lt_iff_toInt_lt]
      rw [show (nI 0 - 1).toInt = -1 from by decide, nI_toInt hj]
      omega
    · rw [show nI r - 1 = nI (r - 1) from pk_sub (a := r) (b := 1) (by omega)]
      exact nI_lt (by omega) hj
/-- an edge as a number, its letter below 5, its nodes below d -/
def EV (d : Nat) (x : Int32) : Prop := ∃ w a b, w < 5 ∧ a < d ∧ b < d ∧ x = nI (100 * w + 10 * a + b)
/-- the reading of a text: so many edges (at most L), the stage of the one at hand, what of it is read; nodes below d -/
def TS (L d : Nat) (mn st nw nd : Int32) (ne : Nat → Int32) : Prop := ∃ q s w, mn = nI q ∧ st = nI s ∧ nd = nI w ∧ s ≤ 2 ∧ q ≤ L ∧ (s = 0 ∨ q < L) ∧ w < 2 ^ d ∧ (s = 1 → ∃ k, k < 5 ∧ nw = nI k) ∧ (s = 2 → ∃ k a, k < 5 ∧ a < d ∧ nw = nI (10 * k + a)) ∧ ∀ j, j < q → EV d (ne j)
/-- what is left of it in any case -/
def TB (L d : Nat) (mn nd : Int32) (ne : Nat → Int32) : Prop := ∃ q w, mn = nI q ∧ nd = nI w ∧ q ≤ L ∧ w < 2 ^ d ∧ ∀ j, j < q → EV d (ne j)
theorem TS.b {L d : Nat} {mn st nw nd : Int32} {ne : Nat → Int32} (h : TS L d mn st nw nd ne) : TB L d mn nd ne := by
  obtain ⟨q, s, w, h1, h2, h3, h4, h5, h6, h7, h8, h9, h10⟩ := h
  exact ⟨q, w, h1, h3, h5, h7, h10⟩
theorem or_shl {w d k : Nat} (hw : w < 2 ^ d) (hd : d ≤ 5) (hk : k < d) : ∃ w2, w2 < 2 ^ d ∧ nI w ||| ((1 : Int32) <<< (nI k &&& 31)) = nI w2 := by
  rw [shl1 (by omega)]
  have h1 : 2 ^ k < 2 ^ d := Nat.pow_lt_pow_right (by decide) hk
  have h5 : 2 ^ d ≤ 32 := pow_le5 hd
  refine ⟨w ||| 2 ^ k, Nat.or_lt_two_pow hw h1, ?_⟩
  apply Int32.toBitVec_inj.mp
  apply BitVec.eq_of_toNat_eq
  have e1 : (nI w ||| nI (2 ^ k)).toBitVec = (nI w).toBitVec ||| (nI (2 ^ k)).toBitVec := rfl
  have e2 : ∀ n, (nI n).toBitVec.toNat = n % 2 ^ 32 := fun n => rfl
  rw [e1, BitVec.toNat_or, e2, e2, e2]
  have h6 : w ||| 2 ^ k < 2 ^ d := Nat.or_lt_two_pow hw h1
  rw [Nat.mod_eq_of_lt (by omega), Nat.mod_eq_of_lt (by omega), Nat.mod_eq_of_lt (by omega)]
theorem shr_div {w k : Nat} (hw : w < 32) (hk : k ≤ 5) : nI w >>> (nI k &&& 31) = nI (w / 2 ^ k) := by
  have : ∀ w, w < 32 → ∀ k, k < 6 → nI w >>> (nI k &&& 31) = nI (w / 2 ^ k) := by decide +kernel
  exact this w hw k (by omega)
theorem div32 {w : Nat} (hw : w < 32) : w / 2 ^ 5 = 0 := Nat.div_eq_of_lt hw
theorem lA_b {x : Int32} (h : ¬ wi x 65 67 = 0) : x - 65 = -1 ∨ ∃ k, k < 5 ∧ x - 65 = nI k := by
  obtain ⟨k, h1, h2, e⟩ := wi_rng (a := 65) (b := 67) (by decide) (by decide) h
  subst e
  exact Or.inr ⟨k - 65, by omega, pk_sub (a := k) (b := 65) h1⟩
theorem nI_nm1 {n : Nat} (h : n < 1000) : ¬ nI n = -1 := fun q => by
  have h1 := congrArg Int32.toInt q
  rw [nI_toInt (by omega), show (-1 : Int32).toInt = -1 from by decide] at h1
  omega
theorem lA_a1 {x : Int32} (h : x = 97) : (x - 97) + 3 = -1 ∨ ∃ k, k < 5 ∧ (x - 97) + 3 = nI k := by
  subst h
  exact Or.inr ⟨3, by decide, by decide⟩
theorem lA_a2 {x : Int32} (h : x = 98) : (x - 97) + 3 = -1 ∨ ∃ k, k < 5 ∧ (x - 97) + 3 = nI k := by
  subst h
  exact Or.inr ⟨4, by decide, by decide⟩
theorem st_1 {s : Nat} (h2 : s ≤ 2) (c : ¬ nI s = 0) (c2 : ¬ nI s = 2) : s = 1 := by
  rcases (show s = 0 ∨ s = 1 ∨ s = 2 by omega) with rfl | rfl | rfl
  · exact absurd rfl c
  · rfl
  · exact absurd rfl c2
theorem st_2 {s : Nat} (h2 : s ≤ 2) (c2 : nI s = 2) : s = 2 := (nI_eq (b := 2) (by omega) (by decide)).mp c2
theorem EV_s {d q : Nat} {ne : Nat → Int32} {x : Int32} (h : ∀ j, j < q → EV d (ne j)) (hx : EV d x) : ∀ j, j < q + 1 → EV d (upd ne q x j) := fun j hj => by
  by_cases h9 : j = q
  · subst h9; rw [pk_us]; exact hx
  · rw [pk_un h9]; exact h j (by omega)
theorem fst_s {i : Nat} {P : Prop} (h : i = 0 ∨ P) (h0 : i = 0 → P) : i + 1 = 0 ∨ P := Or.inr (h.elim h0 id)
theorem ab_lt {w i : Nat} (hw : w < 32) (c : nI (w / 2 ^ i) = 0) : w < 2 ^ i := by
  have h1 : w / 2 ^ i ≤ w := Nat.div_le_self _ _
  have h2 := (nI_eq (b := 0) (by omega) (by decide)).mp c
  rcases (Nat.div_eq_zero_iff).mp h2 with q | q
  · exact absurd q (Nat.ne_of_gt (Nat.two_pow_pos i))
  · exact q
theorem ab_ge {w i : Nat} (hw : w < 32) (c : ¬ nI (w / 2 ^ i) = 0) : i + 1 = 0 ∨ 2 ^ (i + 1 - 1) ≤ w := by
  refine Or.inr ?_
  show 2 ^ i ≤ w
  rcases Nat.lt_or_ge w (2 ^ i) with q | q
  · exact absurd (show nI (w / 2 ^ i) = 0 by rw [Nat.div_eq_of_lt q]; rfl) c
  · exact q
/-- the reference's rules -/
def MRI (ro re rn rg : Nat → Int32) (r : Nat) : Prop := ∀ j, j < r → (∃ o, o < 3 ∧ ro j = nI o) ∧ ∃ e, 1 ≤ e ∧ e ≤ 3 ∧ re j = nI e ∧ (∃ w, 2 ≤ w ∧ w ≤ 4 ∧ rn j = nI w) ∧ ∀ k, k < e → EV 4 (rg (3 * j + k))
