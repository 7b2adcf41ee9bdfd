/-! masks of nodes and sets of edges, as numbers below 32 -/
theorem zm_or {m a b : Nat} (hm : m < 32) (ha : a < 5) (hb : b < 5) : nI m ||| (((1 : Int32) <<< (nI a &&& 31)) ||| ((1 : Int32) <<< (nI b &&& 31))) = nI (m ||| (2 ^ a ||| 2 ^ b)) ∧ (m ||| (2 ^ a ||| 2 ^ b)) < 32 := by
  have : ∀ m, m < 32 → ∀ a, a < 5 → ∀ b, b < 5 → nI m ||| (((1 : Int32) <<< (nI a &&& 31)) ||| ((1 : Int32) <<< (nI b &&& 31))) = nI (m ||| (2 ^ a ||| 2 ^ b)) ∧ (m ||| (2 ^ a ||| 2 ^ b)) < 32 := by decide +kernel
  exact this m hm a ha b hb
theorem zm_bit {S i : Nat} (hS : S < 32) (hi : i < 5) : ((nI S >>> (nI i &&& 31)) &&& 1 = 0 ↔ S.testBit i = false) ∧ (((nI S ^^^ (-1)) >>> (nI i &&& 31)) &&& 1 = 0 ↔ S.testBit i = true) := by
  have : ∀ S, S < 32 → ∀ i, i < 5 → ((nI S >>> (nI i &&& 31)) &&& 1 = 0 ↔ S.testBit i = false) ∧ (((nI S ^^^ (-1)) >>> (nI i &&& 31)) &&& 1 = 0 ↔ S.testBit i = true) := by decide +kernel
  exact this S hS i hi
/-- the nodes of the edges that b names, as a mask -/
def zMk (F T : Nat → Nat) (b : Nat → Bool) : Nat → Nat
  | 0 => 0
  | i + 1 => if b i = true then zMk F T b i ||| (2 ^ F i ||| 2 ^ T i) else zMk F T b i
theorem zMk_lt {F T : Nat → Nat} {b : Nat → Bool} : ∀ n, (∀ i, i < n → F i < 5 ∧ T i < 5) → zMk F T b n < 32 := by
  intro n
  induction n with
  | zero => intro _; exact (by decide : 0 < 32)
  | succ n ih =>
    intro h
    have h1 := ih (fun i hi => h i (by omega))
    rw [zMk]
    split
    · exact (zm_or h1 (h n (by omega)).1 (h n (by omega)).2).2
    · exact h1
theorem zMk_bit {F T : Nat → Nat} {b : Nat → Bool} (v : Nat) : ∀ n, (zMk F T b n).testBit v = true ↔ ∃ i, i < n ∧ b i = true ∧ (F i = v ∨ T i = v) := by
  intro n
  induction n with
  | zero =>
    rw [zMk, Nat.zero_testBit]
    exact ⟨fun q => absurd q (by decide), fun ⟨i, hi, _⟩ => absurd hi (by omega)⟩
  | succ n ih =>
    rw [zMk]
    by_cases hb : b n = true
    · rw [if_pos hb, Nat.testBit_or, Nat.testBit_or, Nat.testBit_two_pow, Nat.testBit_two_pow, Bool.or_eq_true, Bool.or_eq_true, decide_eq_true_iff, decide_eq_true_iff, ih]
      constructor
      · rintro (⟨i, h1, h2, h3⟩ | h)
        · exact ⟨i, by omega, h2, h3⟩
        · exact ⟨n, by omega, hb, h⟩
      · rintro ⟨i, h1, h2, h3⟩
        by_cases e : i = n
        · subst e; exact Or.inr h3
        · exact Or.inl ⟨i, by omega, h2, h3⟩
    · rw [if_neg hb, ih]
      constructor
      · rintro ⟨i, h1, h2, h3⟩
        exact ⟨i, by omega, h2, h3⟩
      · rintro ⟨i, h1, h2, h3⟩
        by_cases e : i = n
        · subst e; exact absurd h2 hb
        · exact ⟨i, by omega, h2, h3⟩
/-- a set within another -/
def SB (p S : Nat) : Prop := ∀ i, i < 5 → p.testBit i = true → S.testBit i = true
theorem zm_sub {S p : Nat} (hS : S < 32) (hp : p < 32) : (nI p &&& (nI S ^^^ (-1)) = 0 ↔ SB p S) ∧ (SB p S → nI S &&& (nI p ^^^ (-1)) = nI (S - p) ∧ p ≤ S ∧ ∀ i, i < 5 → ((S - p).testBit i = true ↔ S.testBit i = true ∧ p.testBit i = false)) := by
  have A : ∀ S, S < 32 → ∀ p, p < 32 → (nI p &&& (nI S ^^^ (-1)) = 0 ↔ (∀ i, i < 5 → p.testBit i = true → S.testBit i = true)) := by decide +kernel
  have B : ∀ S, S < 32 → ∀ p, p < 32 → (∀ i, i < 5 → p.testBit i = true → S.testBit i = true) → nI S &&& (nI p ^^^ (-1)) = nI (S - p) ∧ p ≤ S := by decide +kernel
  have C : ∀ S, S < 32 → ∀ p, p < 32 → (∀ i, i < 5 → p.testBit i = true → S.testBit i = true) → ∀ i, i < 5 → (S - p).testBit i = (S.testBit i && !p.testBit i) := by decide +kernel
  exact ⟨A S hS p hp, fun h => ⟨(B S hS p hp h).1, (B S hS p hp h).2, fun i hi => by rw [C S hS p hp h i hi]; cases S.testBit i <;> cases p.testBit i <;> simp⟩⟩
theorem np_pair {s t : Nat} (hs : s < 5) (ht : t < 5) : ((1 : Int32) <<< (nI s &&& 31)) ||| ((1 : Int32) <<< (nI t &&& 31)) = nI (2 ^ s ||| 2 ^ t) ∧ (2 ^ s ||| 2 ^ t) < 32 := by
  have : ∀ s, s < 5 → ∀ t, t < 5 → ((1 : Int32) <<< (nI s &&& 31)) ||| ((1 : Int32) <<< (nI t &&& 31)) = nI (2 ^ s ||| 2 ^ t) ∧ (2 ^ s ||| 2 ^ t) < 32 := by decide +kernel
  exact this s hs t ht
theorem np_and {x y : Nat} (hx : x < 32) (hy : y < 32) : nI x &&& nI y = nI (x &&& y) ∧ (x &&& y) < 32 := by
  have : ∀ x, x < 32 → ∀ y, y < 32 → nI x &&& nI y = nI (x &&& y) ∧ (x &&& y) < 32 := by decide +kernel
  exact this x hx y hy
theorem np_or3 {x : Nat} (hx : x < 32) : nI x ||| 3 = nI (x ||| 3) ∧ (x ||| 3) < 32 := by
  have : ∀ x, x < 32 → nI x ||| 3 = nI (x ||| 3) ∧ (x ||| 3) < 32 := by decide +kernel
  exact this x hx
theorem np_eq {x y : Nat} (hx : x < 32) (hy : y < 32) : nI x &&& nI y = nI y ↔ SB y x := by
  have : ∀ x, x < 32 → ∀ y, y < 32 → (nI x &&& nI y = nI y ↔ ∀ i, i < 5 → y.testBit i = true → x.testBit i = true) := by decide +kernel
  exact this x hx y hy
theorem np_3 {v : Nat} (hv : v < 5) : (3 : Nat).testBit v = true ↔ v = 0 ∨ v = 1 := by
  have : ∀ v, v < 5 → ((3 : Nat).testBit v = true ↔ v = 0 ∨ v = 1) := by decide
  exact this v hv
theorem tb_hi {x i : Nat} (hx : x < 32) (hi : 5 ≤ i) : x.testBit i = false := by
  apply Nat.testBit_lt_two_pow
  exact Nat.lt_of_lt_of_le hx (Nat.le_trans (by decide : 32 ≤ 2 ^ 5) (Nat.pow_le_pow_right (by decide) hi))
theorem tb_lt {x i : Nat} (hx : x < 32) (h : x.testBit i = true) : i < 5 := by
  rcases Nat.lt_or_ge i 5 with q | q
  · exact q
  · rw [tb_hi hx q] at h
    exact absurd h (by decide)
theorem tb_f {b : Bool} (h : ¬ b = true) : b = false := by
  cases b with
  | true => exact absurd rfl h
  | false => rfl
/-- how many -/
def zpc (S : Nat) : Nat := S % 2 + S / 2 % 2 + S / 4 % 2 + S / 8 % 2 + S / 16 % 2
theorem zpc_lt {S p : Nat} (hS : S < 32) (hp : p < 32) (h : SB p S) (hne : ¬ p = S) : zpc p < zpc S := by
  have : ∀ S, S < 32 → ∀ p, p < 32 → (∀ i, i < 5 → p.testBit i = true → S.testBit i = true) → ¬ p = S → zpc p < zpc S := by decide +kernel
  exact this S hS p hp h hne
theorem zpc_pos {S : Nat} (hS : S < 32) (h : ¬ S = 0) : 1 ≤ zpc S := by
  have : ∀ S, S < 32 → ¬ S = 0 → 1 ≤ zpc S := by decide +kernel
  exact this S hS h
theorem zpc_le {S n : Nat} (hn : n ≤ 5) (hS : S < 2 ^ n) : zpc S ≤ n := by
  have : ∀ n, n < 6 → ∀ S, S < 2 ^ n → zpc S ≤ n := by decide +kernel
  exact this n (by omega) S hS
theorem zpc_add {S p : Nat} (hS : S < 32) (hp : p < 32) (h : SB p S) : zpc p + zpc (S - p) = zpc S := by
  have : ∀ S, S < 32 → ∀ p, p < 32 → (∀ i, i < 5 → p.testBit i = true → S.testBit i = true) → zpc p + zpc (S - p) = zpc S := by decide +kernel
  exact this S hS p hp h
/-- the parts of a set that is dealt out -/
theorem zTh_sb {S : Nat} {p : Nat → Nat} (hS : S < 32) (h : zTh S p) : p 0 < 32 ∧ p 1 < 32 ∧ p 2 < 32 ∧ SB (p 0) S ∧ SB (p 1) (S - p 0) ∧ p 2 = S - p 0 - p 1 ∧ p 1 ≤ S - p 0 ∧ SB (p 1) S ∧ SB (p 2) S := by
  obtain ⟨h1, h2, h3⟩ := h
  have b0 : SB (p 0) S := fun i _ q => (h2 i).mpr ⟨0, by decide, q⟩
  have b1 : SB (p 1) S := fun i _ q => (h2 i).mpr ⟨1, by decide, q⟩
  have b2 : SB (p 2) S := fun i _ q => (h2 i).mpr ⟨2, by decide, q⟩
  refine ⟨by omega, by omega, by omega, b0, ?_, by omega, by omega, b1, b2⟩
  intro i hi q
  exact (((zm_sub hS (by omega : p 0 < 32)).2 b0).2.2 i hi).mpr ⟨b1 i hi q, h3 1 0 (by decide) (by decide) (by decide) i q⟩
def p3 (a b c : Nat) : Nat → Nat := fun i => if i = 0 then a else if i = 1 then b else c
theorem zTh_mk {S a b : Nat} (hS : S < 32) (ha : SB a S) (ha2 : a < 32) (hb : SB b (S - a)) (hb2 : b < 32) : zTh S (p3 a b (S - a - b)) ∧ b ≤ S - a ∧ a ≤ S := by
  obtain ⟨-, e2, e3⟩ := (zm_sub hS ha2).2 ha
  have hS2 : S - a < 32 := by omega
  obtain ⟨-, f2, f3⟩ := (zm_sub hS2 hb2).2 hb
  have hi5 : ∀ x : Nat, x < 32 → ∀ i, x.testBit i = true → i < 5 := fun x hx i q => tb_lt hx q
  have c3 : S - a - b < 32 := by omega
  refine ⟨⟨?_, ?_, ?_⟩, f2, e2⟩
  · show a + b + (S - a - b) = S
    omega
  · intro i
    constructor
    · intro q
      have hi := hi5 S hS i q
      by_cases qa : a.testBit i = true
      · exact ⟨0, by decide, qa⟩
      · have q2 := (e3 i hi).mpr ⟨q, tb_f qa⟩
        by_cases qb : b.testBit i = true
        · exact ⟨1, by decide, qb⟩
        · exact ⟨2, by decide, (f3 i hi).mpr ⟨q2, tb_f qb⟩⟩
    · rintro ⟨k, hk, q⟩
      rcases (show k = 0 ∨ k = 1 ∨ k = 2 by omega) with e | e | e
      · subst e; exact ha i (hi5 a ha2 i q) q
      · subst e
        have hi := hi5 b hb2 i q
        exact ((e3 i hi).mp (hb i hi q)).1
      · subst e
        have hi := hi5 (S - a - b) c3 i q
        exact ((e3 i hi).mp ((f3 i hi).mp q).1).1
  · have d01 : ∀ i, a.testBit i = true → b.testBit i = false := fun i q => by
      apply tb_f
      intro w
      have hi := hi5 a ha2 i q
      rw [((e3 i hi).mp (hb i hi w)).2] at q
      exact absurd q (by decide)
    have d02 : ∀ i, a.testBit i = true → (S - a - b).testBit i = false := fun i q => by
      apply tb_f
      intro w
      have hi := hi5 a ha2 i q
      rw [((e3 i hi).mp ((f3 i hi).mp w).1).2] at q
      exact absurd q (by decide)
    have d12 : ∀ i, b.testBit i = true → (S - a - b).testBit i = false := fun i q => by
      apply tb_f
      intro w
      have hi := hi5 b hb2 i q
      rw [((f3 i hi).mp w).2] at q
      exact absurd q (by decide)
    have sw : ∀ {x y : Nat}, (∀ i, x.testBit i = true → y.testBit i = false) → ∀ i, y.testBit i = true → x.testBit i = false := fun h i q => by
      apply tb_f
      intro w
      rw [h i w] at q
      exact absurd q (by decide)
    intro i j hi hj hne k q
    rcases (show i = 0 ∨ i = 1 ∨ i = 2 by omega) with e | e | e <;> rcases (show j = 0 ∨ j = 1 ∨ j = 2 by omega) with f | f | f <;> subst e <;> subst f
    · exact absurd rfl hne
    · exact d01 k q
    · exact d02 k q
    · exact sw d01 k q
    · exact absurd rfl hne
    · exact d12 k q
    · exact sw d02 k q
    · exact sw d12 k q
    · exact absurd rfl hne
theorem zpc_th {S : Nat} {p : Nat → Nat} (hS : S < 32) (h : zTh S p) : zpc (p 0) + zpc (p 1) + zpc (p 2) = zpc S := by
  obtain ⟨a1, a2, a3, a4, a5, a6, a7, -⟩ := zTh_sb hS h
  have e1 := zpc_add hS a1 a4
  have e2 := zpc_add (by omega : S - p 0 < 32) a2 a5
  rw [a6]
  omega
