/-! the reference's search: numbers up to a million -/
def FWI (fw : Nat → Int32) : Prop := ∀ k, k < 2400 → ∃ q, q ≤ 1000000 ∧ fw k = nI q
theorem and_le {x : Nat} (hx : x < 2147483648) (y : Int32) : ∃ k, k ≤ x ∧ nI x &&& y = nI k := by
  have h : (nI x &&& y).toBitVec = (nI x).toBitVec &&& y.toBitVec := rfl
  refine ⟨(nI x &&& y).toBitVec.toNat, ?_, ?_⟩
  · rw [h, BitVec.toNat_and]
    refine Nat.le_trans Nat.and_le_left ?_
    have : (nI x).toBitVec.toNat = x % 2 ^ 32 := rfl
    rw [this]
    omega
  · apply Int32.toBitVec_inj.mp
    show (nI x &&& y).toBitVec = BitVec.ofNat 32 (nI x &&& y).toBitVec.toNat
    rw [BitVec.ofNat_toNat, BitVec.setWidth_eq]
def Fsum (f : Nat → Int32) : Nat → Nat
  | 0 => 0
  | n + 1 => Fsum f n + (f n).toInt.toNat
theorem Fsum_out {f : Nat → Int32} {k : Nat} {x : Int32} : ∀ n, n ≤ k → Fsum (upd f k x) n = Fsum f n := by
  intro n
  induction n with
  | zero => intro _; rfl
  | succ n ih => intro h; rw [Fsum, Fsum, ih (by omega), pk_un (by omega)]
theorem Fsum_in {f : Nat → Int32} {k : Nat} {x : Int32} (hx : x.toInt.toNat < (f k).toInt.toNat) : ∀ n, k < n → Fsum (upd f k x) n < Fsum f n := by
  intro n
  induction n with
  | zero => intro h; omega
  | succ n ih =>
    intro h
    rw [Fsum, Fsum]
    by_cases h9 : k = n
    · subst h9
      rw [Fsum_out k (Nat.le_refl k), pk_us]
      omega
    · rw [pk_un (by omega)]
      have := ih (by omega)
      omega
def Ffw (f : Nat → Int32) : Nat := Fsum f 2400
def FD (f f2 : Nat → Int32) (r : Int32) : Prop := FWI f2 ∧ ((r = 0 ∧ Ffw f2 ≤ Ffw f) ∨ (r = 1 ∧ Ffw f2 < Ffw f))
theorem FD.le {a b : Nat → Int32} {r : Int32} (h : FD a b r) : Ffw b ≤ Ffw a := by
  rcases h.2 with q | q <;> omega
theorem updi_self {f : Nat → Int32} {k : Nat} : upd f k (f k) = f := by
  funext j
  by_cases h : j = k
  · subst h; exact pk_us
  · exact pk_un h
theorem FD_no {f : Nat → Int32} (h : FWI f) : FD f f 0 := ⟨h, Or.inl ⟨rfl, Nat.le_refl _⟩⟩
theorem FWI_s {f : Nat → Int32} {k q : Nat} (h : FWI f) (hq : q ≤ 1000000) : FWI (upd f k (nI q)) := fun j hj => by
  by_cases h9 : j = k
  · subst h9; exact ⟨q, hq, pk_us⟩
  · rw [pk_un h9]; exact h j hj
theorem FD_yes {f : Nat → Int32} {k q : Nat} (h : FWI f) (hk : k < 2400) (hq : q ≤ 1000001) (c : ¬ f k ≤ nI q) : FD f (upd f k (nI q)) 1 := by
  obtain ⟨w, hw, e⟩ := h k hk
  rw [e] at c
  have hlt := nleN (a := w) (b := q) (by omega) (by omega) c
  exact ⟨FWI_s h (by omega), Or.inr ⟨rfl, Fsum_in (by rw [e, nI_toInt (by omega), nI_toInt (by omega)]; omega) 2400 hk⟩⟩
theorem FD_1 {a b c : Nat → Int32} {g : Int32} (h1 : FD a b g) (h2 : FD b c 1) : FD a c 1 := by
  refine ⟨h2.1, Or.inr ⟨rfl, ?_⟩⟩
  have := h1.le
  rcases h2.2 with q | q
  · exact absurd q.1 (by decide)
  · omega
theorem FD_0 {a b : Nat → Int32} {g : Int32} (h1 : FD a b g) : FD a b 0 := ⟨h1.1, Or.inl ⟨rfl, h1.le⟩⟩
theorem FD_2 {a b c : Nat → Int32} {g r : Int32} (h1 : FD a b g) (h2 : FD b c r) (hg : ¬ g = 0) : FD a c 1 := by
  refine ⟨h2.1, Or.inr ⟨rfl, ?_⟩⟩
  have := h2.le
  rcases h1.2 with q | q
  · exact absurd q.1 hg
  · omega
theorem FD_3 {a b c : Nat → Int32} {g r : Int32} (h1 : FD a b g) (h2 : FD b c r) : FD a c 0 := by
  refine ⟨h2.1, Or.inl ⟨rfl, ?_⟩⟩
  have := h2.le
  have := h1.le
  omega
theorem FD_r {a b c : Nat → Int32} {g r : Int32} (h1 : FD a b g) (h2 : FD b c r) (hr : ¬ r = 0) : FD a c 1 := by
  refine ⟨h2.1, Or.inr ⟨rfl, ?_⟩⟩
  have := h1.le
  rcases h2.2 with q | q
  · exact absurd q.1 hr
  · omega
theorem FD.nar {a b : Nat → Int32} {g : Int32} (h : FD a b g) : narrow .boolean (.int g) = .int g := by
  rcases h.2 with q | q
  · exact nar_01 (Or.inl q.1)
  · exact nar_01 (Or.inr q.1)
theorem FD.fall {a b : Nat → Int32} {g : Int32} {n : Nat} (h : FD a b g) (hn : Ffw a < n + 1) : ¬ g = 0 → Ffw b < n := fun c => by
  rcases h.2 with q | q
  · exact absurd q.1 c
  · omega
