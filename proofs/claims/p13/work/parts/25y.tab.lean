/-! tables of the fewest steps, as numbers: what both sides need -/
def tn (x : Int32) : Nat := x.toInt.toNat
theorem tn_nI {n : Nat} (h : n < 2147483648) : tn (nI n) = n := by
  unfold tn
  rw [nI_toInt h]
  omega
/-- the least of those that P has, B if there is none below it -/
def zLs (B : Nat) (P : Nat → Prop) (q : Nat) : Prop := q ≤ B ∧ (q < B → P q) ∧ ∀ n, P n → q ≤ n
theorem zLs_no {B : Nat} {P : Nat → Prop} (h : ∀ n, ¬ P n) : zLs B P B := ⟨Nat.le_refl _, fun q => absurd q (Nat.lt_irrefl _), fun n q => absurd q (h n)⟩
theorem zLs_0 {B : Nat} {P : Nat → Prop} (h : P 0) : zLs B P 0 := ⟨Nat.zero_le _, fun _ => h, fun _ _ => Nat.zero_le _⟩
def TD (B : Nat) (T : Nat → Nat → Nat → Nat → Nat) (a p s t n : Nat) : Prop := (a < 3 ∧ p < 32 ∧ s < 5 ∧ t < 5) ∧ n = T a p s t ∧ n < B
/-- an edge of a rule, its letter and ends told: its part costs n -/
def zSv (g : GG) (D : Nat → Nat → Nat → Nat → Nat → Prop) (a p s t n : Nat) : Prop := (a < 3 ∧ D a p s t n) ∨ (3 ≤ a ∧ n = 0 ∧ zEd g p a s t)
theorem zSl_sv {g : GG} {r : GR} {D : Nat → Nat → Nat → Nat → Nat → Prop} {j i : Nat} {d : Nat → Nat} {p n : Nat} (h : i < yS r j) : zSl g r D j i d p n ↔ ¬ p = 0 ∧ zSv g D (yL r j i) p (d (yF r j i)) (d (yT r j i)) n := by
  constructor
  · rintro (⟨a, -, -⟩ | ⟨-, b, c⟩)
    · omega
    · exact ⟨b, c⟩
  · rintro ⟨a, b⟩
    exact Or.inr ⟨h, a, b⟩
theorem zSl_no {g : GG} {r : GR} {D : Nat → Nat → Nat → Nat → Nat → Prop} {j i : Nat} {d : Nat → Nat} {p n : Nat} (h : ¬ i < yS r j) : zSl g r D j i d p n ↔ p = 0 ∧ n = 0 := by
  constructor
  · rintro (⟨-, b, c⟩ | ⟨a, -⟩)
    · exact ⟨b, c⟩
    · exact absurd a h
  · rintro ⟨a, b⟩
    exact Or.inl ⟨by omega, a, b⟩
theorem zEd_ne {g : GG} {a s t : Nat} : ¬ zEd g 0 a s t := by
  rintro ⟨i, -, h, -⟩
  have := Nat.two_pow_pos i
  omega
/-- a set dealt out to three slots, the cost of each told by Z -/
def zSp (Z : Nat → Nat → Nat → Prop) (S n : Nat) : Prop := ∃ p c : Nat → Nat, zTh S p ∧ (∀ i, i < 3 → Z i (p i) (c i)) ∧ n = c 0 + c 1 + c 2
/-- by a rule whose ends are told -/
def zBy (g : GG) (r : GR) (D : Nat → Nat → Nat → Nat → Nat → Prop) (j s t S n : Nat) : Prop := ∃ d, d 0 = s ∧ d 1 = t ∧ zSd (yW r j) (zN g) d ∧ zSp (fun i => zSl g r D j i d) S n
theorem zAp_by {g : GG} {r : GR} {D : Nat → Nat → Nat → Nat → Nat → Prop} {j : Nat} {d p c : Nat → Nat} {a S s t n : Nat} (h : zAp g r D j d p c a S s t n) : zBy g r D j s t S (c 0 + c 1 + c 2) ∧ n = 1 + (c 0 + c 1 + c 2) :=
  ⟨⟨d, h.2.2.1, h.2.2.2.1, h.2.2.2.2.1, p, c, h.2.2.2.2.2.1, h.2.2.2.2.2.2.1, rfl⟩, by have := h.2.2.2.2.2.2.2; omega⟩
theorem zBy_ap {g : GG} {r : GR} {D : Nat → Nat → Nat → Nat → Nat → Prop} {j S s t n : Nat} (hj : j < yM r) (h : zBy g r D j s t S n) : ∃ d p c, zAp g r D j d p c (yO r j) S s t (1 + n) := by
  obtain ⟨d, h1, h2, h3, p, c, h4, h5, h6⟩ := h
  exact ⟨d, p, c, hj, rfl, h1, h2, h3, h4, h5, by omega⟩
/-- slots by nodes that agree where they are used -/
theorem zSl_d {g : GG} {r : GR} {D : Nat → Nat → Nat → Nat → Nat → Prop} {j i : Nat} {d d2 : Nat → Nat} {p n : Nat} (hw : i < yS r j → yF r j i < yW r j ∧ yT r j i < yW r j) (hd : ∀ k, k < yW r j → d k = d2 k) (h : zSl g r D j i d p n) : zSl g r D j i d2 p n := by
  by_cases q : i < yS r j
  · rw [zSl_sv q] at h ⊢
    rw [← hd _ (hw q).1, ← hd _ (hw q).2]
    exact h
  · rw [zSl_no q] at h ⊢
    exact h
/-- smaller costs by a smaller table -/
theorem zSl_le {g : GG} {r : GR} {D D2 : Nat → Nat → Nat → Nat → Nat → Prop} {j i : Nat} {d : Nat → Nat} {p n : Nat} (hD : ∀ a s t m, a < 3 → D a p s t m → ∃ m2, m2 ≤ m ∧ D2 a p s t m2) (h : zSl g r D j i d p n) : ∃ n2, n2 ≤ n ∧ zSl g r D2 j i d p n2 := by
  rcases h with h | ⟨h1, h2, ⟨h3, h4⟩ | h3⟩
  · exact ⟨n, Nat.le_refl _, Or.inl h⟩
  · obtain ⟨m2, w1, w2⟩ := hD _ _ _ _ h3 h4
    exact ⟨m2, w1, Or.inr ⟨h1, h2, Or.inl ⟨h3, w2⟩⟩⟩
  · exact ⟨n, Nat.le_refl _, Or.inr ⟨h1, h2, Or.inr h3⟩⟩
theorem mn_ok {a b : Nat} (ha : a < 2147483648) (hb : b < 2147483648) : (if nI b < nI a then nI b else nI a) = nI (min a b) := by
  by_cases h : b < a
  · rw [if_pos (nI_lt h ha), Nat.min_eq_right (by omega)]
  · rw [if_neg (fun q => h (ltN ha hb q)), Nat.min_eq_left (by omega)]
theorem nI_sym {a b : Nat} (ha : a < 2147483648) (hb : b < 2147483648) (h : ¬ nI a = nI b) : ¬ a = b := fun q => h (by rw [q])
theorem tn_eq {x y : Int32} {a b : Nat} (hx : x = nI a) (hy : y = nI b) (ha : a < 2147483648) (hb : b < 2147483648) : x = y ↔ tn x = tn y := by
  rw [hx, hy, tn_nI ha, tn_nI hb, nI_eq ha hb]
/-- rows that hold numbers below 5 -/
theorem SDn_tn {n k : Nat} {s : Nat → Int32} (h : SDn n s) (hk : k < n) : s k = nI (tn (s k)) ∧ tn (s k) < 5 := by
  obtain ⟨w, hw, e⟩ := h k hk
  rw [e, tn_nI (by omega)]
  exact ⟨rfl, hw⟩
/-- the graph's rows hold numbers -/
def gC (n v : Nat) (g1 g2 g3 : Nat → Int32) : GG := (n, v, fun j => tn (g1 j), fun j => tn (g2 j), fun j => tn (g3 j))
def GI (n v : Nat) (g1 g2 g3 : Nat → Int32) : Prop := ∀ j, j < n → ∃ q a b, q < 5 ∧ a < v ∧ b < v ∧ g1 j = nI q ∧ g2 j = nI a ∧ g3 j = nI b
theorem GI_at {n v j : Nat} {g1 g2 g3 : Nat → Int32} (h : GI n v g1 g2 g3) (hv : v ≤ 5) (hj : j < n) : g1 j = nI (tn (g1 j)) ∧ g2 j = nI (tn (g2 j)) ∧ g3 j = nI (tn (g3 j)) ∧ tn (g1 j) < 5 ∧ tn (g2 j) < v ∧ tn (g3 j) < v := by
  obtain ⟨q, a, b, h1, h2, h3, e1, e2, e3⟩ := h j hj
  rw [e1, e2, e3, tn_nI (by omega), tn_nI (by omega), tn_nI (by omega)]
  exact ⟨rfl, rfl, rfl, h1, h2, h3⟩
theorem zNd_v {n v S x : Nat} {g1 g2 g3 : Nat → Int32} (h : GI n v g1 g2 g3) (hv : v ≤ 5) (q : zNd (gC n v g1 g2 g3) S x) : x < v := by
  obtain ⟨i, hi, -, e⟩ := q
  obtain ⟨-, -, -, -, a, b⟩ := GI_at h hv hi
  rcases e with e | e
  · have e : tn (g2 i) = x := e
    omega
  · have e : tn (g3 i) = x := e
    omega
/-- the masks of the nodes -/
def NDm (g2 g3 : Nat → Int32) (b : Nat → Bool) (n : Nat) : Nat := zMk (fun k => tn (g2 k)) (fun k => tn (g3 k)) b n
def bY (S : Nat) : Nat → Bool := fun i => S.testBit i
def bN (S : Nat) : Nat → Bool := fun i => !S.testBit i
theorem NDm_lt {n v : Nat} {g1 g2 g3 : Nat → Int32} {b : Nat → Bool} (h : GI n v g1 g2 g3) (hv : v ≤ 5) {i : Nat} (hi : i ≤ n) : NDm g2 g3 b i < 32 :=
  zMk_lt i (fun k hk => by
    obtain ⟨-, -, -, -, a, c⟩ := GI_at h hv (show k < n by omega)
    exact ⟨Nat.lt_of_lt_of_le a hv, Nat.lt_of_lt_of_le c hv⟩)
theorem NDm_y {n v S x : Nat} {g1 g2 g3 : Nat → Int32} : (NDm g2 g3 (bY S) n).testBit x = true ↔ zNd (gC n v g1 g2 g3) S x := zMk_bit x n
theorem NDm_n {n v S x : Nat} {g1 g2 g3 : Nat → Int32} : (NDm g2 g3 (bN S) n).testBit x = true ↔ zOd (gC n v g1 g2 g3) S x := by
  refine (zMk_bit x n).trans ?_
  constructor
  · rintro ⟨i, h1, h2, h3⟩
    have h2 : (!S.testBit i) = true := h2
    exact ⟨i, h1, by cases hb : S.testBit i with | true => rw [hb] at h2; exact absurd h2 (by decide) | false => rfl, h3⟩
  · rintro ⟨i, h1, h2, h3⟩
    exact ⟨i, h1, by show (!S.testBit i) = true; rw [h2]; rfl, h3⟩
theorem bY_ok {S : Nat} (hS : S < 32) : ∀ i, i < 5 → ((nI S >>> (nI i &&& 31)) &&& 1 = 0 ↔ bY S i = false) := fun i hi => (zm_bit hS hi).1
theorem bN_ok {S : Nat} (hS : S < 32) : ∀ i, i < 5 → (((nI S ^^^ (-1)) >>> (nI i &&& 31)) &&& 1 = 0 ↔ bN S i = false) := fun i hi => by
  rw [(zm_bit hS hi).2]
  show S.testBit i = true ↔ (!S.testBit i) = false
  cases S.testBit i <;> decide
theorem nd_nn {g2 g3 : Nat → Int32} {bb : Nat → Bool} {i : Nat} {p1 fo : Int32} (hb : (p1 >>> (nI i &&& 31)) &&& 1 = 0 ↔ bb i = false) (c : (p1 >>> (nI i &&& 31)) &&& 1 = 0) (h : fo = nI (NDm g2 g3 bb i)) : fo = nI (NDm g2 g3 bb (i + 1)) := by
  have e : NDm g2 g3 bb (i + 1) = NDm g2 g3 bb i := by
    show zMk _ _ bb (i + 1) = _
    rw [zMk, if_neg (by rw [hb.mp c]; decide)]
    rfl
  rw [e]
  exact h
theorem nd_yy {n v : Nat} {g1 g2 g3 : Nat → Int32} {bb : Nat → Bool} {i : Nat} {p1 fo : Int32} (hG : GI n v g1 g2 g3) (hv : v ≤ 5) (hi : i < n) (hb : (p1 >>> (nI i &&& 31)) &&& 1 = 0 ↔ bb i = false) (c : ¬ (p1 >>> (nI i &&& 31)) &&& 1 = 0) (h : fo = nI (NDm g2 g3 bb i)) : fo ||| (((1 : Int32) <<< (g2 i &&& 31)) ||| ((1 : Int32) <<< (g3 i &&& 31))) = nI (NDm g2 g3 bb (i + 1)) := by
  have hy : bb i = true := by
    cases e : bb i with
    | true => rfl
    | false => exact absurd (hb.mpr e) c
  have e : NDm g2 g3 bb (i + 1) = NDm g2 g3 bb i ||| (2 ^ tn (g2 i) ||| 2 ^ tn (g3 i)) := by
    show zMk _ _ bb (i + 1) = _
    rw [zMk, if_pos hy]
    rfl
  obtain ⟨-, e2, e3, -, l2, l3⟩ := GI_at hG hv hi
  rw [e, h]
  have w := (zm_or (NDm_lt (b := bb) hG hv (Nat.le_of_lt hi)) (Nat.lt_of_lt_of_le l2 hv) (Nat.lt_of_lt_of_le l3 hv)).1
  rw [← e2, ← e3] at w
  exact w
theorem tb_pair {s t v : Nat} : (2 ^ s ||| 2 ^ t).testBit v = true ↔ v = s ∨ v = t := by
  rw [Nat.testBit_or, Nat.testBit_two_pow, Nat.testBit_two_pow, Bool.or_eq_true, decide_eq_true_iff, decide_eq_true_iff]
  constructor
  · rintro (h | h)
    · exact Or.inl h.symm
    · exact Or.inr h.symm
  · rintro (h | h)
    · exact Or.inl h.symm
    · exact Or.inr h.symm
theorem tb_and {x y v : Nat} : (x &&& y).testBit v = true ↔ x.testBit v = true ∧ y.testBit v = true := by
  rw [Nat.testBit_and, Bool.and_eq_true]
theorem tb_or {x y v : Nat} : (x ||| y).testBit v = true ↔ x.testBit v = true ∨ y.testBit v = true := by
  rw [Nat.testBit_or, Bool.or_eq_true]
theorem ip_iff {n v b s t : Nat} {g1 g2 g3 : Nat → Int32} (hG : GI n v g1 g2 g3) (hv : v ≤ 5) (hs : s < 5) (ht : t < 5) : zP (gC n v g1 g2 g3) b s t ↔ ¬ nI s = nI t ∧ nI (NDm g2 g3 (bY b) n) &&& nI (2 ^ s ||| 2 ^ t) = nI (2 ^ s ||| 2 ^ t) ∧ (nI (NDm g2 g3 (bY b) n) &&& (nI (NDm g2 g3 (bN b) n) ||| 3)) &&& (nI (2 ^ s ||| 2 ^ t) ^^^ (-1)) = 0 := by
  have hI := NDm_lt (b := bY b) hG hv (Nat.le_refl n)
  have hO := NDm_lt (b := bN b) hG hv (Nat.le_refl n)
  have hP := (np_pair hs ht).2
  have e3 := np_or3 hO
  have eX := np_and hI e3.2
  rw [np_eq hI hP, e3.1, eX.1, (zm_sub hP eX.2).1, nI_eq (by omega) (by omega)]
  constructor
  · rintro ⟨h1, h2, h3, h4⟩
    refine ⟨h1, fun i hi q => ?_, fun i hi q => ?_⟩
    · rw [NDm_y (v := v) (g1 := g1)]
      rcases tb_pair.mp q with e | e <;> rw [e]
      · exact h2
      · exact h3
    · rw [tb_and, tb_or, NDm_y (v := v) (g1 := g1), NDm_n (v := v) (g1 := g1), np_3 hi] at q
      exact tb_pair.mpr (h4 i q.1 q.2)
  · rintro ⟨h1, h2, h3⟩
    refine ⟨h1, NDm_y.mp (h2 s hs (tb_pair.mpr (Or.inl rfl))), NDm_y.mp (h2 t ht (tb_pair.mpr (Or.inr rfl))), fun x q1 q2 => ?_⟩
    have hx : x < 5 := Nat.lt_of_lt_of_le (zNd_v hG hv q1) hv
    refine tb_pair.mp (h3 x hx ?_)
    rw [tb_and, tb_or, NDm_y (v := v) (g1 := g1), NDm_n (v := v) (g1 := g1), np_3 hx]
    exact ⟨q1, q2⟩
/-- the set is one edge -/
theorem pow_inj {i j : Nat} (h : 2 ^ i = 2 ^ j) : i = j := by
  rcases Nat.lt_trichotomy i j with q | q | q
  · have := Nat.pow_lt_pow_right (a := 2) (by decide) q
    omega
  · exact q
  · have := Nat.pow_lt_pow_right (a := 2) (by decide) q
    omega
theorem ie_sh {S i : Nat} (hS : S < 32) (hi : i ≤ 9) : nI S = (1 : Int32) <<< (nI i &&& 31) ↔ S = 2 ^ i := by
  have := pow_le9 hi
  rw [shl1 hi, nI_eq (by omega) (by omega)]
theorem ie_no {n v S a s t : Nat} {g1 g2 g3 : Nat → Int32} (h : ∀ j, j < n → ¬ S = 2 ^ j) : ¬ zEd (gC n v g1 g2 g3) S a s t := by
  rintro ⟨i, hi, e, -⟩
  exact h i hi e
theorem ie_iff {n v S a s t i : Nat} {g1 g2 g3 : Nat → Int32} (hG : GI n v g1 g2 g3) (hv : v ≤ 5) (ha : a < 100) (hs : s < 100) (ht : t < 100) (hi : i < n) (hS : S = 2 ^ i) : zEd (gC n v g1 g2 g3) S a s t ↔ g1 i = nI a ∧ g2 i = nI s ∧ g3 i = nI t := by
  obtain ⟨e1, e2, e3, l1, l2, l3⟩ := GI_at hG hv hi
  constructor
  · rintro ⟨j, hj, e, q1, q2, q3⟩
    have := pow_inj (hS.symm.trans e)
    subst this
    have q1 : tn (g1 i) = a := q1
    have q2 : tn (g2 i) = s := q2
    have q3 : tn (g3 i) = t := q3
    rw [← q1, ← q2, ← q3]
    exact ⟨e1, e2, e3⟩
  · rintro ⟨q1, q2, q3⟩
    refine ⟨i, hi, hS, ?_, ?_, ?_⟩
    · show tn (g1 i) = a
      rw [q1, tn_nI (by omega)]
    · show tn (g2 i) = s
      rw [q2, tn_nI (by omega)]
    · show tn (g3 i) = t
      rw [q3, tn_nI (by omega)]
