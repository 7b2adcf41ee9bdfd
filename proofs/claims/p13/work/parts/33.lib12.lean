theorem pow16 {i : Nat} (h : i ≤ 3) : 16 ^ i ≤ 4096 := Nat.le_trans (Nat.pow_le_pow_right (by decide) h) (by decide)
theorem and15 (x : Int32) : ∃ k, k < 16 ∧ x &&& 15 = nI k := by
  have h : (x &&& 15).toBitVec = x.toBitVec &&& (15 : Int32).toBitVec := rfl
  refine ⟨(x &&& 15).toBitVec.toNat, ?_, ?_⟩
  · rw [h, BitVec.toNat_and]
    exact Nat.lt_of_le_of_lt Nat.and_le_right (by decide)
  · apply Int32.toBitVec_inj.mp
    show (x &&& 15).toBitVec = BitVec.ofNat 32 (x &&& 15).toBitVec.toNat
    rw [BitVec.ofNat_toNat, BitVec.setWidth_eq]
def NB (x : Int64) (k : Nat) : Prop := 0 ≤ x.toInt ∧ x.toInt ≤ 1 + (k : Int) * 1152921504606846976
theorem NB_s {x y : Int64} {k : Nat} (h : NB x k) (hk : k < 3) (hy : 0 ≤ y.toInt ∧ y.toInt ≤ 1152921504606846976) : NB (x + y) (k + 1) := by
  obtain ⟨h1, h2⟩ := h
  obtain ⟨h3, h4⟩ := hy
  have e : (x + y).toInt = x.toInt + y.toInt := by
    rw [Int64.toInt_add]
    exact Int.bmod_eq_of_le (by omega) (by omega)
  unfold NB
  rw [e]
  omega
theorem NB_0 : NB 1 0 := by
  unfold NB
  rw [show (1 : Int64).toInt = 1 from by decide]
  omega
theorem LD_1 {a b c : Nat → Int64} {g r : Int32} (h1 : LD a b g) (h2 : LD b c r) (hr : ¬ r = 0) : LD a c 1 := by
  refine ⟨h2.1, Or.inr ⟨rfl, ?_⟩⟩
  have := h1.le
  rcases h2.2 with q | q
  · exact absurd q.1 hr
  · omega
theorem LD_2 {a b c : Nat → Int64} {g r : Int32} (h1 : LD a b g) (h2 : LD b c r) (hg : ¬ g = 0) : LD a c 1 := by
  refine ⟨h2.1, Or.inr ⟨rfl, ?_⟩⟩
  have := h2.le
  rcases h1.2 with q | q
  · exact absurd q.1 hg
  · omega
theorem LD_3 {a b c : Nat → Int64} {g r : Int32} (h1 : LD a b g) (h2 : LD b c r) : LD a c 0 := by
  refine ⟨h2.1, Or.inl ⟨rfl, ?_⟩⟩
  have := h2.le
  have := h1.le
  omega
theorem LD.nar {a b : Nat → Int64} {g : Int32} (h : LD a b g) : narrow .boolean (.int g) = .int g := by
  rcases h.2 with q | q
  · exact nar_01 (Or.inl q.1)
  · exact nar_01 (Or.inr q.1)
theorem LD.fall {a b : Nat → Int64} {g : Int32} {n : Nat} (h : LD a b g) (hn : Mla a < n + 1) : ¬ g = 0 → Mla b < n := fun c => by
  rcases h.2 with q | q
  · exact absurd q.1 c
  · omega
def LRn (la : Nat → Int64) (n : Nat) : Prop := ∀ k, k < n → 0 ≤ (la k).toInt ∧ (la k).toInt ≤ 1152921504606846976
theorem LRn_s {la : Nat → Int64} {n : Nat} {x : Int64} (h : LRn la n) (hx : 0 ≤ x.toInt ∧ x.toInt ≤ 1152921504606846976) : LRn (vp_updL la n x) (n + 1) := fun k hk => by
  by_cases h9 : k = n
  · subst h9; rw [pk_uLs]; exact hx
  · rw [pk_uLn h9]; exact h k (by omega)
