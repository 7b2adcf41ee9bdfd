/-! what is settled: how many classes of a letter -/
def cz (z : Nat → Int32) (b : Nat) : Nat → Nat
  | 0 => 0
  | n + 1 => if z (b + n) = 0 then cz z b n else cz z b n + 1
theorem cz_le {z : Nat → Int32} {b : Nat} : ∀ n, cz z b n ≤ n := by
  intro n
  induction n with
  | zero => exact Nat.le_refl _
  | succ n ih => rw [cz]; split <;> omega
theorem cz_lt {z : Nat → Int32} {b k : Nat} (h : z (b + k) = 0) : ∀ n, k < n → cz z b n < n := by
  intro n
  induction n with
  | zero => intro h; omega
  | succ n ih =>
    intro hk
    rw [cz]
    by_cases h9 : k = n
    · subst h9
      rw [if_pos h]
      have := cz_le (z := z) (b := b) k
      omega
    · have := ih (by omega)
      split <;> omega
theorem cz_out {z : Nat → Int32} {b j : Nat} {x : Int32} : ∀ n, (j < b ∨ b + n ≤ j) → cz (upd z j x) b n = cz z b n := by
  intro n
  induction n with
  | zero => intro _; rfl
  | succ n ih =>
    intro h
    rw [cz, cz, ih (by omega), pk_un (by omega)]
theorem cz_in {z : Nat → Int32} {b k : Nat} (h : z (b + k) = 0) : ∀ n, k < n → cz (upd z (b + k) 1) b n = cz z b n + 1 := by
  intro n
  induction n with
  | zero => intro h; omega
  | succ n ih =>
    intro hk
    rw [cz, cz]
    by_cases h9 : k = n
    · subst h9
      rw [pk_us, if_neg (by decide), if_pos h, cz_out k (by omega)]
    · rw [pk_un (by omega), ih (by omega)]
      split <;> rfl
/-- the lights' rows while they are found: counts, and classes that are classes -/
def SI (z k c : Nat → Int32) : Prop := (∀ l, l < 6 → c l = nI (cz z (l * 16) 16)) ∧ ∀ l, l < 6 → ∀ i, i < cz z (l * 16) 16 → ∃ q, q < 16 ∧ k (l * 16 + i) = nI q
theorem cz_zero {b : Nat} : ∀ n, cz (fun _ => 0) b n = 0 := by
  intro n
  induction n with
  | zero => rfl
  | succ n ih => rw [cz, if_pos rfl, ih]
theorem SI_0 {k : Nat → Int32} : SI (fun _ => 0) k (fun _ => 0) := by
  refine ⟨fun l _ => by rw [cz_zero]; rfl, fun l _ i hi => ?_⟩
  rw [cz_zero] at hi
  omega
theorem SI_s {z k c : Nat → Int32} {a b : Nat} (h : SI z k c) (ha : a < 6) (hb : b < 16) (hz : z (a * 16 + b) = 0) : SI (upd z (a * 16 + b) 1) (upd k (a * 16 + cz z (a * 16) 16) (nI b)) (upd c a (nI (cz z (a * 16) 16 + 1))) := by
  have hlt := cz_lt hz 16 hb
  refine ⟨fun l hl => ?_, fun l hl i hi => ?_⟩
  · by_cases h9 : l = a
    · subst h9
      rw [pk_us, cz_in hz 16 hb]
    · rw [pk_un h9, cz_out 16 (by omega)]
      exact h.1 l hl
  · by_cases h9 : l = a
    · subst h9
      rw [cz_in hz 16 hb] at hi
      by_cases h8 : i = cz z (l * 16) 16
      · subst h8
        exact ⟨b, hb, pk_us⟩
      · rw [pk_un (by omega)]
        exact h.2 l hl i (by omega)
    · rw [cz_out 16 (by omega)] at hi
      have := cz_le (z := z) (b := l * 16) 16
      rw [pk_un (by omega)]
      exact h.2 l hl i hi
def NR (z : Nat → Int32) (r : Int32) : Prop := r = -1 ∨ ∃ k, k < 96 ∧ r = nI k ∧ z k = 0
/-- what the book's rules must be for the tables that are made of them -/
def RI (t : RT) : Prop := (∃ o, o < 3 ∧ t.2.1.1 = nI o) ∧ (∃ e, 1 ≤ e ∧ e ≤ 3 ∧ t.2.1.2.1 = nI e) ∧ (∃ v, 2 ≤ v ∧ v ≤ 5 ∧ t.2.1.2.2 = nI v) ∧ (∀ j, j < 3 → ∃ q, q < 6 ∧ t.2.2.2.2.2.1 j = nI q) ∧ (∀ j, j < 3 → ¬ t.2.2.2.2.2.1 j = 5 → (∃ q, q < 4 ∧ t.2.2.2.1 j = nI q) ∧ ∃ q, q < 4 ∧ t.2.2.2.2.1 j = nI q) ∧ (∀ j, j < 64 → lt4 (t.2.2.2.2.2.2.1 j)) ∧ ∀ j, j < 64 → lt4 (t.2.2.2.2.2.2.2 j)
def BI (ρ : Nat → RT) (r : Nat) : Prop := ∀ j, j < r → RI (ρ j)
