/-! how great a least number of steps can be -/
def DerN (r : Nat) (O : Nat → Nat) (T : Nat → Nat → Nat) (K : Nat → Nat → Nat → Nat → Nat) : Nat → Nat → Prop
  | 0, s => s = 57 ∨ s = 79 ∨ s = 92
  | n + 1, s => DerN r O T K n s ∨ ∃ j k0 k1 k2, j < r ∧ k0 < 16 ∧ k1 < 16 ∧ k2 < 16 ∧ DerN r O T K n (T j 0 * 16 + k0) ∧ DerN r O T K n (T j 1 * 16 + k1) ∧ DerN r O T K n (T j 2 * 16 + k2) ∧ s = O j * 16 + K j k0 k1 k2
def Der (r : Nat) (O : Nat → Nat) (T : Nat → Nat → Nat) (K : Nat → Nat → Nat → Nat → Nat) (s : Nat) : Prop := ∃ n, DerN r O T K n s
theorem DerN_mono {r : Nat} {O : Nat → Nat} {T : Nat → Nat → Nat} {K : Nat → Nat → Nat → Nat → Nat} {n s : Nat} (h : DerN r O T K n s) : ∀ m, DerN r O T K (n + m) s := by
  intro m
  induction m with
  | zero => exact h
  | succ m ih => exact Or.inl ih
theorem Der_rule {r : Nat} {O : Nat → Nat} {T : Nat → Nat → Nat} {K : Nat → Nat → Nat → Nat → Nat} {j k0 k1 k2 : Nat} (hj : j < r) (h0 : k0 < 16) (h1 : k1 < 16) (h2 : k2 < 16) (d0 : Der r O T K (T j 0 * 16 + k0)) (d1 : Der r O T K (T j 1 * 16 + k1)) (d2 : Der r O T K (T j 2 * 16 + k2)) : Der r O T K (O j * 16 + K j k0 k1 k2) := by
  obtain ⟨a, ha⟩ := d0
  obtain ⟨b, hb⟩ := d1
  obtain ⟨c, hc⟩ := d2
  refine ⟨a + b + c + 1, Or.inr ⟨j, k0, k1, k2, hj, h0, h1, h2, ?_, ?_, ?_, rfl⟩⟩
  · rw [show a + b + c = a + (b + c) by omega]; exact DerN_mono ha _
  · rw [show a + b + c = b + (a + c) by omega]; exact DerN_mono hb _
  · rw [show a + b + c = c + (a + b) by omega]; exact DerN_mono hc _
theorem Der_base {r : Nat} {O : Nat → Nat} {T : Nat → Nat → Nat} {K : Nat → Nat → Nat → Nat → Nat} {s : Nat} (h : s = 57 ∨ s = 79 ∨ s = 92) : Der r O T K s := ⟨0, h⟩
/-- what rules must be -/
def WFR (r : Nat) (O : Nat → Nat) (T : Nat → Nat → Nat) (K : Nat → Nat → Nat → Nat → Nat) : Prop := ∀ j, j < r → O j < 3 ∧ (∀ i, i < 3 → T j i < 6) ∧ (∀ k0 k1 k2, k0 < 16 → k1 < 16 → k2 < 16 → K j k0 k1 k2 < 16) ∧
  (∀ k0 k1 k2 l0 l1 l2, k0 < 16 → k1 < 16 → k2 < 16 → l0 < 16 → l1 < 16 → l2 < 16 → k0 % 4 = l0 % 4 → k1 % 4 = l1 % 4 → k2 % 4 = l2 % 4 → K j k0 k1 k2 % 4 = K j l0 l1 l2 % 4) ∧
  ∀ k0 k1 k2, k0 < 16 → k1 < 16 → k2 < 16 → (k0 < 4 ∧ ¬ T j 0 = 5 ∨ k1 < 4 ∧ ¬ T j 1 = 5 ∨ k2 < 4 ∧ ¬ T j 2 = 5) → K j k0 k1 k2 < 4
theorem Der_ge {r : Nat} {O : Nat → Nat} {T : Nat → Nat → Nat} {K : Nat → Nat → Nat → Nat → Nat} (hW : WFR r O T K) {s : Nat} (h : Der r O T K s) : s < 48 ∨ s = 57 ∨ s = 79 ∨ s = 92 := by
  obtain ⟨n, hn⟩ := h
  induction n with
  | zero => exact Or.inr hn
  | succ n ih =>
    rcases hn with hn | ⟨j, k0, k1, k2, hj, h0, h1, h2, -, -, -, rfl⟩
    · exact ih hn
    · have := (hW j hj).1
      have := (hW j hj).2.2.1 k0 k1 k2 h0 h1 h2
      exact Or.inl (by omega)
/-- counting -/
noncomputable def cnt (P : Nat → Prop) : Nat → Nat
  | 0 => 0
  | n + 1 => cnt P n + @ite Nat (P n) (Classical.propDecidable _) 1 0
theorem cnt_y {P : Nat → Prop} {n : Nat} (h : P n) : cnt P (n + 1) = cnt P n + 1 := by rw [cnt, if_pos h]
theorem cnt_n {P : Nat → Prop} {n : Nat} (h : ¬ P n) : cnt P (n + 1) = cnt P n := by rw [cnt, if_neg h]; rfl
theorem cnt_sub {P Q : Nat → Prop} (h : ∀ a, P a → Q a) : ∀ n, cnt P n ≤ cnt Q n := by
  intro n
  induction n with
  | zero => exact Nat.le_refl _
  | succ n ih =>
    by_cases q : Q n
    · rw [cnt_y q]
      by_cases p : P n
      · rw [cnt_y p]; omega
      · rw [cnt_n p]; omega
    · rw [cnt_n q, cnt_n (fun p => q (h n p))]; exact ih
theorem cnt_lt {P Q : Nat → Prop} (h : ∀ a, P a → Q a) {b : Nat} (hq : Q b) (hp : ¬ P b) : ∀ n, b < n → cnt P n + 1 ≤ cnt Q n := by
  intro n
  induction n with
  | zero => intro q; omega
  | succ n ih =>
    intro hb
    by_cases e : b = n
    · subst e
      rw [cnt_y hq, cnt_n hp]
      have := cnt_sub h b
      omega
    · have := ih (by omega)
      by_cases q : Q n
      · rw [cnt_y q]
        by_cases p : P n
        · rw [cnt_y p]; omega
        · rw [cnt_n p]; omega
      · rw [cnt_n q, cnt_n (fun p => q (h n p))]; exact this
def bct (b : Nat → Bool) : Nat → Nat
  | 0 => 0
  | n + 1 => bct b n + (b n).toNat
theorem cnt_b {P : Nat → Prop} {b : Nat → Bool} (h : ∀ a, P a → b a = true) : ∀ n, cnt P n ≤ bct b n := by
  intro n
  induction n with
  | zero => exact Nat.le_refl _
  | succ n ih =>
    by_cases p : P n
    · rw [cnt_y p, bct, h n p]
      show cnt P n + 1 ≤ bct b n + 1
      omega
    · rw [cnt_n p, bct]; omega
theorem cnt_le (P : Nat → Prop) : ∀ n, cnt P n ≤ n := by
  intro n
  induction n with
  | zero => exact Nat.le_refl _
  | succ n ih =>
    by_cases p : P n
    · rw [cnt_y p]; omega
    · rw [cnt_n p]; omega
def bq : Nat → Nat
  | 0 => 0
  | k + 1 => 1 + 3 * bq k
theorem bq_le (k : Nat) : bq k ≤ bq (k + 1) := by rw [bq]; omega
theorem bq37 : bq 37 = 225141952945498681 := by decide +kernel
theorem bq13 : bq 13 = 797161 := by decide +kernel
theorem bq_37 : ∀ k, k ≤ 37 → bq k ≤ 225141952945498681 := by decide +kernel
/-- a table that is closed under the rules, below the bound C -/
def Clo (r : Nat) (O : Nat → Nat) (T : Nat → Nat → Nat) (K : Nat → Nat → Nat → Nat → Nat) (F : Nat → Nat) (C : Nat) : Prop := F 57 = 0 ∧ F 79 = 0 ∧ F 92 = 0 ∧ ∀ j k0 k1 k2, j < r → k0 < 16 → k1 < 16 → k2 < 16 → Der r O T K (T j 0 * 16 + k0) → Der r O T K (T j 1 * 16 + k1) → Der r O T K (T j 2 * 16 + k2) → 1 + F (T j 0 * 16 + k0) + F (T j 1 * 16 + k1) + F (T j 2 * 16 + k2) < C → F (O j * 16 + K j k0 k1 k2) ≤ 1 + F (T j 0 * 16 + k0) + F (T j 1 * 16 + k1) + F (T j 2 * 16 + k2)
section
variable {r : Nat} {O : Nat → Nat} {T : Nat → Nat → Nat} {K : Nat → Nat → Nat → Nat → Nat} {F : Nat → Nat} {C : Nat}
/-- its colours aren't none -/
def NEs (s : Nat) : Prop := s < 48 ∧ 4 ≤ s % 16
theorem done_0 (hW : WFR r O T K) (hc : Clo r O T K F C) {s : Nat} (h : Der r O T K s) (hs : 48 ≤ s) : F s = 0 := by
  rcases Der_ge hW h with q | q | q | q
  · omega
  · rw [q]; exact hc.1
  · rw [q]; exact hc.2.1
  · rw [q]; exact hc.2.2.1
theorem md16 {a b : Nat} (hb : b < 16) : (a * 16 + b) % 16 = b ∧ (a * 16 + b) / 16 = a := by omega
theorem NE_step (hW : WFR r O T K) (hc : Clo r O T K F C) {b : Nat} (hb : 1 + 3 * b < C) : ∀ n s, DerN r O T K n s → (s < 48 → 4 ≤ s % 16) → F s ≤ b ∨ ∃ u, NEs u ∧ Der r O T K u ∧ b < F u ∧ F u ≤ 1 + 3 * b := by
  intro n
  induction n with
  | zero =>
    intro s h _
    rcases h with q | q | q
    · left; rw [q, hc.1]; omega
    · left; rw [q, hc.2.1]; omega
    · left; rw [q, hc.2.2.1]; omega
  | succ n ih =>
    intro s h hs
    rcases h with h | ⟨j, k0, k1, k2, hj, h0, h1, h2, d0, d1, d2, rfl⟩
    · exact ih s h hs
    · obtain ⟨w1, w2, w3, w4, w5⟩ := hW j hj
      have hk := w3 k0 k1 k2 h0 h1 h2
      have hne := hs (by omega)
      have hkk : 4 ≤ K j k0 k1 k2 := by omega
      have t0 := w2 0 (by decide)
      have t1 := w2 1 (by decide)
      have t2 := w2 2 (by decide)
      have c0 : T j 0 * 16 + k0 < 48 → 4 ≤ (T j 0 * 16 + k0) % 16 := fun q => by
        rcases Nat.lt_or_ge k0 4 with z | z
        · have := w5 k0 k1 k2 h0 h1 h2 (Or.inl ⟨z, by omega⟩); omega
        · omega
      have c1 : T j 1 * 16 + k1 < 48 → 4 ≤ (T j 1 * 16 + k1) % 16 := fun q => by
        rcases Nat.lt_or_ge k1 4 with z | z
        · have := w5 k0 k1 k2 h0 h1 h2 (Or.inr (Or.inl ⟨z, by omega⟩)); omega
        · omega
      have c2 : T j 2 * 16 + k2 < 48 → 4 ≤ (T j 2 * 16 + k2) % 16 := fun q => by
        rcases Nat.lt_or_ge k2 4 with z | z
        · have := w5 k0 k1 k2 h0 h1 h2 (Or.inr (Or.inr ⟨z, by omega⟩)); omega
        · omega
      rcases ih _ d0 c0 with q0 | q0
      · rcases ih _ d1 c1 with q1 | q1
        · rcases ih _ d2 c2 with q2 | q2
          · have hle := hc.2.2.2 j k0 k1 k2 hj h0 h1 h2 ⟨n, d0⟩ ⟨n, d1⟩ ⟨n, d2⟩ (by omega)
            rcases Nat.lt_or_ge b (F (O j * 16 + K j k0 k1 k2)) with z | z
            · exact Or.inr ⟨_, ⟨by omega, hs (by omega)⟩, Der_rule hj h0 h1 h2 ⟨n, d0⟩ ⟨n, d1⟩ ⟨n, d2⟩, z, by omega⟩
            · exact Or.inl z
          · exact Or.inr q2
        · exact Or.inr q1
      · exact Or.inr q0
theorem NE_all (hW : WFR r O T K) (hc : Clo r O T K F C) (hC : 675425858836496044 < C) : ∀ s, Der r O T K s → (s < 48 → 4 ≤ s % 16) → F s ≤ 225141952945498681 := by
  have key : ∀ k, k ≤ 37 → (∀ s, Der r O T K s → (s < 48 → 4 ≤ s % 16) → F s ≤ bq k) ∨ k ≤ cnt (fun u => NEs u ∧ Der r O T K u ∧ F u ≤ bq k) 48 := by
    intro k
    induction k with
    | zero => intro _; exact Or.inr (Nat.zero_le _)
    | succ k ih =>
      intro hk
      have hle := bq_le k
      rcases ih (by omega) with q | q
      · exact Or.inl (fun s h1 h2 => Nat.le_trans (q s h1 h2) hle)
      · by_cases z : ∀ s, Der r O T K s → (s < 48 → 4 ≤ s % 16) → F s ≤ bq k
        · exact Or.inl (fun s h1 h2 => Nat.le_trans (z s h1 h2) hle)
        · have z2 : ∃ s, Der r O T K s ∧ (s < 48 → 4 ≤ s % 16) ∧ ¬ F s ≤ bq k := by
            apply Classical.byContradiction
            intro w
            exact z (fun s h1 h2 => Classical.byContradiction (fun h3 => w ⟨s, h1, h2, h3⟩))
          obtain ⟨s, ⟨n, h1⟩, h2, h3⟩ := z2
          have hb := bq_37 k (by omega)
          rcases NE_step hW hc (b := bq k) (by omega) n s h1 h2 with w | ⟨u, u1, u2, u3, u4⟩
          · exact absurd w h3
          · refine Or.inr (Nat.le_trans (Nat.succ_le_succ q) ?_)
            exact cnt_lt (P := fun u => NEs u ∧ Der r O T K u ∧ F u ≤ bq k) (Q := fun u => NEs u ∧ Der r O T K u ∧ F u ≤ bq (k + 1)) (fun a ha => ⟨ha.1, ha.2.1, Nat.le_trans ha.2.2 hle⟩) (b := u) ⟨u1, u2, u4⟩ (fun w => by have := w.2.2; omega) 48 u1.1
  rcases key 37 (Nat.le_refl _) with q | q
  · intro s h1 h2
    have := q s h1 h2
    rw [bq37] at this
    exact this
  · have h36 := cnt_b (P := fun u => NEs u ∧ Der r O T K u ∧ F u ≤ bq 37) (b := fun u => Nat.ble 4 (u % 16)) (fun a ha => Nat.ble_eq_true_of_le ha.1.2) 48
    have e : bct (fun u => Nat.ble 4 (u % 16)) 48 = 36 := by decide +kernel
    omega
/-- some graph with the same ways costs little -/
def GWp (r : Nat) (O : Nat → Nat) (T : Nat → Nat → Nat) (K : Nat → Nat → Nat → Nat → Nat) (F : Nat → Nat) (b p : Nat) : Prop := ∃ u, u < 48 ∧ Der r O T K u ∧ u / 16 * 4 + u % 4 = p ∧ F u ≤ b
theorem GW_step (hW : WFR r O T K) (hc : Clo r O T K F C) {b : Nat} (hb : 1 + 3 * b < C) : ∀ n s, DerN r O T K n s → (48 ≤ s ∨ GWp r O T K F b (s / 16 * 4 + s % 4)) ∨ ∃ p, p < 12 ∧ ¬ GWp r O T K F b p ∧ GWp r O T K F (1 + 3 * b) p := by
  intro n
  induction n with
  | zero =>
    intro s h
    left; left
    rcases h with q | q | q <;> omega
  | succ n ih =>
    intro s h
    rcases h with h | ⟨j, k0, k1, k2, hj, h0, h1, h2, d0, d1, d2, rfl⟩
    · exact ih s h
    · obtain ⟨w1, w2, w3, w4, w5⟩ := hW j hj
      have hk := w3 k0 k1 k2 h0 h1 h2
      -- a child of the same letter and ways that costs little
      have pick : ∀ t k, k < 16 → DerN r O T K n (t * 16 + k) → (48 ≤ t * 16 + k ∨ GWp r O T K F b ((t * 16 + k) / 16 * 4 + (t * 16 + k) % 4)) → ∃ l, l < 16 ∧ l % 4 = k % 4 ∧ Der r O T K (t * 16 + l) ∧ F (t * 16 + l) ≤ b := fun t k hk16 d q => by
        rcases q with q | ⟨u, u1, u2, u3, u4⟩
        · exact ⟨k, hk16, rfl, ⟨n, d⟩, by rw [done_0 hW hc ⟨n, d⟩ q]; exact Nat.zero_le _⟩
        · refine ⟨u % 16, by omega, by omega, ?_, ?_⟩
          · rw [show t * 16 + u % 16 = u by omega]; exact u2
          · rw [show t * 16 + u % 16 = u by omega]; exact u4
      rcases ih _ d0 with q0 | q0
      · rcases ih _ d1 with q1 | q1
        · rcases ih _ d2 with q2 | q2
          · obtain ⟨l0, a0, b0, c0, e0⟩ := pick _ _ h0 d0 q0
            obtain ⟨l1, a1, b1, c1, e1⟩ := pick _ _ h1 d1 q1
            obtain ⟨l2, a2, b2, c2, e2⟩ := pick _ _ h2 d2 q2
            have hle := hc.2.2.2 j l0 l1 l2 hj a0 a1 a2 c0 c1 c2 (by omega)
            have hw := w4 k0 k1 k2 l0 l1 l2 h0 h1 h2 a0 a1 a2 b0.symm b1.symm b2.symm
            have hk2 := w3 l0 l1 l2 a0 a1 a2
            have hG : GWp r O T K F (1 + 3 * b) ((O j * 16 + K j k0 k1 k2) / 16 * 4 + (O j * 16 + K j k0 k1 k2) % 4) := ⟨O j * 16 + K j l0 l1 l2, by omega, Der_rule hj a0 a1 a2 c0 c1 c2, by omega, by omega⟩
            by_cases z : GWp r O T K F b ((O j * 16 + K j k0 k1 k2) / 16 * 4 + (O j * 16 + K j k0 k1 k2) % 4)
            · exact Or.inl (Or.inr z)
            · exact Or.inr ⟨_, by omega, z, hG⟩
          · exact Or.inr q2
        · exact Or.inr q1
      · exact Or.inr q0
theorem GW_all (hW : WFR r O T K) (hc : Clo r O T K F C) (hC : 675425858836496044 < C) : ∀ s, Der r O T K s → 48 ≤ s ∨ GWp r O T K F 797161 (s / 16 * 4 + s % 4) := by
  have mono : ∀ {a b p : Nat}, a ≤ b → GWp r O T K F a p → GWp r O T K F b p := fun hab ⟨u, u1, u2, u3, u4⟩ => ⟨u, u1, u2, u3, Nat.le_trans u4 hab⟩
  have key : ∀ k, k ≤ 13 → (∀ s, Der r O T K s → 48 ≤ s ∨ GWp r O T K F (bq k) (s / 16 * 4 + s % 4)) ∨ k ≤ cnt (fun p => GWp r O T K F (bq k) p) 12 := by
    intro k
    induction k with
    | zero => intro _; exact Or.inr (Nat.zero_le _)
    | succ k ih =>
      intro hk
      have hle := bq_le k
      rcases ih (by omega) with q | q
      · exact Or.inl (fun s h1 => (q s h1).imp id (mono hle))
      · by_cases z : ∀ s, Der r O T K s → 48 ≤ s ∨ GWp r O T K F (bq k) (s / 16 * 4 + s % 4)
        · exact Or.inl (fun s h1 => (z s h1).imp id (mono hle))
        · have z2 : ∃ s, Der r O T K s ∧ ¬ (48 ≤ s ∨ GWp r O T K F (bq k) (s / 16 * 4 + s % 4)) := by
            apply Classical.byContradiction
            intro w
            exact z (fun s h1 => Classical.byContradiction (fun h3 => w ⟨s, h1, h3⟩))
          obtain ⟨s, ⟨n, h1⟩, h3⟩ := z2
          have hb := bq_37 k (by omega)
          rcases GW_step hW hc (b := bq k) (by omega) n s h1 with w | ⟨p, p1, p2, p3⟩
          · exact absurd w h3
          · refine Or.inr (Nat.le_trans (Nat.succ_le_succ q) ?_)
            exact cnt_lt (P := fun p => GWp r O T K F (bq k) p) (Q := fun p => GWp r O T K F (bq (k + 1)) p) (fun a ha => mono hle ha) (b := p) p3 p2 12 p1
  rcases key 13 (Nat.le_refl _) with q | q
  · intro s h1
    have := q s h1
    rw [bq13] at this
    exact this
  · have := cnt_le (fun p => GWp r O T K F (bq 13) p) 12
    omega
/-- once there is no colouring there is none -/
def EMp (r : Nat) (O : Nat → Nat) (T : Nat → Nat → Nat) (K : Nat → Nat → Nat → Nat → Nat) (F : Nat → Nat) (b p : Nat) : Prop := Der r O T K (p / 4 * 16 + p % 4) ∧ F (p / 4 * 16 + p % 4) ≤ b
theorem EM_step (hW : WFR r O T K) (hc : Clo r O T K F C) {b : Nat} (hb0 : 675425858836496044 ≤ b) (hb : b + 1594323 < C) : ∀ n s, DerN r O T K n s → (s < 48 → s % 16 < 4 → F s ≤ b) ∨ ∃ p, p < 12 ∧ ¬ EMp r O T K F b p ∧ EMp r O T K F (b + 1594323) p := by
  have hC : 675425858836496044 < C := by omega
  intro n
  induction n with
  | zero =>
    intro s h
    left
    intro q
    rcases h with z | z | z <;> omega
  | succ n ih =>
    intro s h
    rcases h with h | ⟨j, k0, k1, k2, hj, h0, h1, h2, d0, d1, d2, rfl⟩
    · exact ih s h
    · obtain ⟨w1, w2, w3, w4, w5⟩ := hW j hj
      have hk := w3 k0 k1 k2 h0 h1 h2
      have t0 := w2 0 (by decide)
      have t1 := w2 1 (by decide)
      have t2 := w2 2 (by decide)
      have pick : ∀ t k, k < 16 → DerN r O T K n (t * 16 + k) → ∃ l, l < 16 ∧ l % 4 = k % 4 ∧ Der r O T K (t * 16 + l) ∧ F (t * 16 + l) ≤ 797161 := fun t k hk16 d => by
        rcases GW_all hW hc hC _ ⟨n, d⟩ with q | ⟨u, u1, u2, u3, u4⟩
        · exact ⟨k, hk16, rfl, ⟨n, d⟩, by rw [done_0 hW hc ⟨n, d⟩ q]; exact Nat.zero_le _⟩
        · refine ⟨u % 16, by omega, by omega, ?_, ?_⟩
          · rw [show t * 16 + u % 16 = u by omega]; exact u2
          · rw [show t * 16 + u % 16 = u by omega]; exact u4
      have fin : F (O j * 16 + K j k0 k1 k2) ≤ b + 1594323 → (O j * 16 + K j k0 k1 k2 < 48 → (O j * 16 + K j k0 k1 k2) % 16 < 4 → F (O j * 16 + K j k0 k1 k2) ≤ b) ∨ ∃ p, p < 12 ∧ ¬ EMp r O T K F b p ∧ EMp r O T K F (b + 1594323) p := fun q => by
        by_cases e : K j k0 k1 k2 < 4
        · rcases Nat.lt_or_ge b (F (O j * 16 + K j k0 k1 k2)) with z | z
          · refine Or.inr ⟨O j * 4 + K j k0 k1 k2, by omega, fun w => ?_, ?_⟩
            · have := w.2
              rw [show (O j * 4 + K j k0 k1 k2) / 4 * 16 + (O j * 4 + K j k0 k1 k2) % 4 = O j * 16 + K j k0 k1 k2 by omega] at this
              omega
            · unfold EMp
              rw [show (O j * 4 + K j k0 k1 k2) / 4 * 16 + (O j * 4 + K j k0 k1 k2) % 4 = O j * 16 + K j k0 k1 k2 by omega]
              exact ⟨Der_rule hj h0 h1 h2 ⟨n, d0⟩ ⟨n, d1⟩ ⟨n, d2⟩, q⟩
          · exact Or.inl (fun _ _ => z)
        · exact Or.inl (fun _ z => by omega)
      have eqk : ∀ l0 l1 l2, l0 < 16 → l1 < 16 → l2 < 16 → l0 % 4 = k0 % 4 → l1 % 4 = k1 % 4 → l2 % 4 = k2 % 4 → K j k0 k1 k2 < 4 → K j l0 l1 l2 < 4 → K j l0 l1 l2 = K j k0 k1 k2 := fun l0 l1 l2 a0 a1 a2 b0 b1 b2 z1 z2 => by
        have := w4 l0 l1 l2 k0 k1 k2 a0 a1 a2 h0 h1 h2 b0 b1 b2
        omega
      by_cases x0 : k0 < 4 ∧ T j 0 < 3
      · rcases ih _ d0 with q | q
        · have v0 := q (by omega) (by omega)
          obtain ⟨l1, a1, b1, c1, e1⟩ := pick _ _ h1 d1
          obtain ⟨l2, a2, b2, c2, e2⟩ := pick _ _ h2 d2
          have z1 := w5 k0 k1 k2 h0 h1 h2 (Or.inl ⟨x0.1, by omega⟩)
          have z2 := w5 k0 l1 l2 h0 a1 a2 (Or.inl ⟨x0.1, by omega⟩)
          have hle := hc.2.2.2 j k0 l1 l2 hj h0 a1 a2 ⟨n, d0⟩ c1 c2 (by omega)
          rw [eqk k0 l1 l2 h0 a1 a2 rfl b1 b2 z1 z2] at hle
          exact fin (by omega)
        · exact Or.inr q
      · by_cases x1 : k1 < 4 ∧ T j 1 < 3
        · rcases ih _ d1 with q | q
          · have v1 := q (by omega) (by omega)
            obtain ⟨l0, a0, b0, c0, e0⟩ := pick _ _ h0 d0
            obtain ⟨l2, a2, b2, c2, e2⟩ := pick _ _ h2 d2
            have z1 := w5 k0 k1 k2 h0 h1 h2 (Or.inr (Or.inl ⟨x1.1, by omega⟩))
            have z2 := w5 l0 k1 l2 a0 h1 a2 (Or.inr (Or.inl ⟨x1.1, by omega⟩))
            have hle := hc.2.2.2 j l0 k1 l2 hj a0 h1 a2 c0 ⟨n, d1⟩ c2 (by omega)
            rw [eqk l0 k1 l2 a0 h1 a2 b0 rfl b2 z1 z2] at hle
            exact fin (by omega)
          · exact Or.inr q
        · by_cases x2 : k2 < 4 ∧ T j 2 < 3
          · rcases ih _ d2 with q | q
            · have v2 := q (by omega) (by omega)
              obtain ⟨l0, a0, b0, c0, e0⟩ := pick _ _ h0 d0
              obtain ⟨l1, a1, b1, c1, e1⟩ := pick _ _ h1 d1
              have z1 := w5 k0 k1 k2 h0 h1 h2 (Or.inr (Or.inr ⟨x2.1, by omega⟩))
              have z2 := w5 l0 l1 k2 a0 a1 h2 (Or.inr (Or.inr ⟨x2.1, by omega⟩))
              have hle := hc.2.2.2 j l0 l1 k2 hj a0 a1 h2 c0 c1 ⟨n, d2⟩ (by omega)
              rw [eqk l0 l1 k2 a0 a1 h2 b0 b1 rfl z1 z2] at hle
              exact fin (by omega)
            · exact Or.inr q
          · -- no child without a colouring
            have f0 := NE_all hW hc hC _ ⟨n, d0⟩ (fun z => by omega)
            have f1 := NE_all hW hc hC _ ⟨n, d1⟩ (fun z => by omega)
            have f2 := NE_all hW hc hC _ ⟨n, d2⟩ (fun z => by omega)
            have hle := hc.2.2.2 j k0 k1 k2 hj h0 h1 h2 ⟨n, d0⟩ ⟨n, d1⟩ ⟨n, d2⟩ (by omega)
            exact Or.inl (fun _ _ => by omega)
theorem EM_all (hW : WFR r O T K) (hc : Clo r O T K F C) (hC : 675425859000000000 < C) : ∀ s, Der r O T K s → s < 48 → s % 16 < 4 → F s ≤ 675425858857222243 := by
  have key : ∀ k, k ≤ 13 → (∀ s, Der r O T K s → s < 48 → s % 16 < 4 → F s ≤ 675425858836496044 + k * 1594323) ∨ k ≤ cnt (fun p => EMp r O T K F (675425858836496044 + k * 1594323) p) 12 := by
    intro k
    induction k with
    | zero => intro _; exact Or.inr (Nat.zero_le _)
    | succ k ih =>
      intro hk
      rcases ih (by omega) with q | q
      · exact Or.inl (fun s h1 h2 h3 => Nat.le_trans (q s h1 h2 h3) (by omega))
      · by_cases z : ∀ s, Der r O T K s → s < 48 → s % 16 < 4 → F s ≤ 675425858836496044 + k * 1594323
        · exact Or.inl (fun s h1 h2 h3 => Nat.le_trans (z s h1 h2 h3) (by omega))
        · have z2 : ∃ s, Der r O T K s ∧ ¬ (s < 48 → s % 16 < 4 → F s ≤ 675425858836496044 + k * 1594323) := by
            apply Classical.byContradiction
            intro w
            exact z (fun s h1 => Classical.byContradiction (fun h3 => w ⟨s, h1, h3⟩))
          obtain ⟨s, ⟨n, h1⟩, h3⟩ := z2
          rcases EM_step hW hc (b := 675425858836496044 + k * 1594323) (by omega) (by omega) n s h1 with w | ⟨p, p1, p2, p3⟩
          · exact absurd w h3
          · refine Or.inr (Nat.le_trans (Nat.succ_le_succ q) ?_)
            rw [show 675425858836496044 + (k + 1) * 1594323 = 675425858836496044 + k * 1594323 + 1594323 by omega]
            exact cnt_lt (P := fun p => EMp r O T K F (675425858836496044 + k * 1594323) p) (Q := fun p => EMp r O T K F (675425858836496044 + k * 1594323 + 1594323) p) (fun a ha => ⟨ha.1, by have := ha.2; omega⟩) (b := p) p3 p2 12 p1
  rcases key 13 (Nat.le_refl _) with q | q
  · intro s h1 h2 h3
    have := q s h1 h2 h3
    omega
  · have := cnt_le (fun p => EMp r O T K F (675425858836496044 + 13 * 1594323) p) 12
    omega
/-- every derivable state is below the bound -/
theorem Der_lt (hW : WFR r O T K) (hc : Clo r O T K F C) (hC : 1152921504606846976 ≤ C) {s : Nat} (h : Der r O T K s) : F s < 1152921504606846976 := by
  rcases Der_ge hW h with q | q
  · by_cases e : s % 16 < 4
    · have := EM_all hW hc (by omega) s h q e
      omega
    · have := NE_all hW hc (by omega) s h (fun _ => by omega)
      omega
  · rw [done_0 hW hc h (by omega)]
    omega
end
