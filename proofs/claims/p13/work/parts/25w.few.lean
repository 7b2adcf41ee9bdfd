/-! the fewest steps from one edge to a set of edges: g is the graph (edges, nodes, letters, from, to), r the rules (how many, open letter, edges, nodes, letters, from, to) -/
abbrev GG := Nat × Nat × (Nat → Nat) × (Nat → Nat) × (Nat → Nat)
abbrev GR := Nat × (Nat → Nat) × (Nat → Nat) × (Nat → Nat) × (Nat → Nat → Nat) × (Nat → Nat → Nat) × (Nat → Nat → Nat)
def zE (g : GG) : Nat := g.1
def zN (g : GG) : Nat := g.2.1
def zL (g : GG) : Nat → Nat := g.2.2.1
def zF (g : GG) : Nat → Nat := g.2.2.2.1
def zT (g : GG) : Nat → Nat := g.2.2.2.2
def yM (r : GR) : Nat := r.1
def yO (r : GR) : Nat → Nat := r.2.1
def yS (r : GR) : Nat → Nat := r.2.2.1
def yW (r : GR) : Nat → Nat := r.2.2.2.1
def yL (r : GR) : Nat → Nat → Nat := r.2.2.2.2.1
def yF (r : GR) : Nat → Nat → Nat := r.2.2.2.2.2.1
def yT (r : GR) : Nat → Nat → Nat := r.2.2.2.2.2.2
/-- a node of a set, a node of the other edges -/
def zNd (g : GG) (S v : Nat) : Prop := ∃ i, i < zE g ∧ S.testBit i = true ∧ (zF g i = v ∨ zT g i = v)
def zOd (g : GG) (S v : Nat) : Prop := ∃ i, i < zE g ∧ S.testBit i = false ∧ (zF g i = v ∨ zT g i = v)
/-- the class's question of a part -/
def zP (g : GG) (S s t : Nat) : Prop := ¬ s = t ∧ zNd g S s ∧ zNd g S t ∧ ∀ v, zNd g S v → (zOd g S v ∨ v = 0 ∨ v = 1) → v = s ∨ v = t
/-- the set is this one edge -/
def zEd (g : GG) (S a s t : Nat) : Prop := ∃ i, i < zE g ∧ S = 2 ^ i ∧ zL g i = a ∧ zF g i = s ∧ zT g i = t
/-- a set dealt out to three slots -/
def zTh (S : Nat) (p : Nat → Nat) : Prop := p 0 + p 1 + p 2 = S ∧ (∀ b, S.testBit b = true ↔ ∃ i, i < 3 ∧ (p i).testBit b = true) ∧ ∀ i i2, i < 3 → i2 < 3 → ¬ i = i2 → ∀ b, (p i).testBit b = true → (p i2).testBit b = false
/-- inner nodes of a rule stand apart -/
def zSd (w N : Nat) (d : Nat → Nat) : Prop := ∀ k, 2 ≤ k → k < w → d k < N ∧ ∀ i, i < k → ¬ d k = d i
/-- a slot: its part costs n, by D -/
def zSl (g : GG) (r : GR) (D : Nat → Nat → Nat → Nat → Nat → Prop) (j i : Nat) (d : Nat → Nat) (p n : Nat) : Prop := (yS r j ≤ i ∧ p = 0 ∧ n = 0) ∨ (i < yS r j ∧ ¬ p = 0 ∧ ((yL r j i < 3 ∧ D (yL r j i) p (d (yF r j i)) (d (yT r j i)) n) ∨ (3 ≤ yL r j i ∧ n = 0 ∧ zEd g p (yL r j i) (d (yF r j i)) (d (yT r j i)))))
theorem zSl_mono {g : GG} {r : GR} {D D2 : Nat → Nat → Nat → Nat → Nat → Prop} (h : ∀ a p s t n, D a p s t n → D2 a p s t n) {j i : Nat} {d : Nat → Nat} {p n : Nat} (q : zSl g r D j i d p n) : zSl g r D2 j i d p n := by
  rcases q with q | ⟨q1, q2, q3⟩
  · exact Or.inl q
  · rcases q3 with ⟨a, b⟩ | q3
    · exact Or.inr ⟨q1, q2, Or.inl ⟨a, h _ _ _ _ _ b⟩⟩
    · exact Or.inr ⟨q1, q2, Or.inr q3⟩
/-- a rule, its nodes, its parts and what they cost -/
def zAp (g : GG) (r : GR) (D : Nat → Nat → Nat → Nat → Nat → Prop) (j : Nat) (d p c : Nat → Nat) (a S s t n : Nat) : Prop := j < yM r ∧ yO r j = a ∧ d 0 = s ∧ d 1 = t ∧ zSd (yW r j) (zN g) d ∧ zTh S p ∧ (∀ i, i < 3 → zSl g r D j i d (p i) (c i)) ∧ n = 1 + c 0 + c 1 + c 2
theorem zAp_mono {g : GG} {r : GR} {D D2 : Nat → Nat → Nat → Nat → Nat → Prop} (h : ∀ a p s t n, D a p s t n → D2 a p s t n) {j : Nat} {d p c : Nat → Nat} {a S s t n : Nat} (q : zAp g r D j d p c a S s t n) : zAp g r D2 j d p c a S s t n :=
  ⟨q.1, q.2.1, q.2.2.1, q.2.2.2.1, q.2.2.2.2.1, q.2.2.2.2.2.1, fun i hi => zSl_mono h (q.2.2.2.2.2.2.1 i hi), q.2.2.2.2.2.2.2⟩
/-- the reference's question of two parts -/
def zA1 (g : GG) (r : GR) (j : Nat) (d p : Nat → Nat) : Prop := ∀ i i2, i < 3 → i2 < 3 → ¬ i = i2 → ∀ v, zNd g (p i) v → zNd g (p i2) v → (v = d (yF r j i) ∨ v = d (yT r j i))
/-- the class: so many steps lead there -/
def zC (g : GG) (r : GR) : Nat → Nat → Nat → Nat → Nat → Nat → Prop
  | 0, _, _, _, _, _ => False
  | k + 1, a, S, s, t, n => zP g S s t ∧ ∃ j d p c, zAp g r (zC g r k) j d p c a S s t n
/-- the reference: so many steps lead there -/
def zR (g : GG) (r : GR) : Nat → Nat → Nat → Nat → Nat → Nat → Prop
  | 0, _, _, _, _, _ => False
  | k + 1, a, S, s, t, n => ¬ s = t ∧ ∃ j d p c, zAp g r (zR g r k) j d p c a S s t n ∧ zA1 g r j d p
theorem zC_s {g : GG} {r : GR} : ∀ {k a S s t n : Nat}, zC g r k a S s t n → zC g r (k + 1) a S s t n := by
  intro k
  induction k with
  | zero => intro a S s t n h; exact h.elim
  | succ k ih =>
    intro a S s t n h
    obtain ⟨h1, j, d, p, c, h2⟩ := h
    exact ⟨h1, j, d, p, c, zAp_mono (fun _ _ _ _ _ q => ih q) h2⟩
theorem zC_m {g : GG} {r : GR} {k a S s t n : Nat} (h : zC g r k a S s t n) : ∀ m, zC g r (k + m) a S s t n := by
  intro m
  induction m with
  | zero => exact h
  | succ m ih => exact zC_s ih
theorem zC_P {g : GG} {r : GR} {k a S s t n : Nat} (h : zC g r k a S s t n) : zP g S s t := by
  cases k with
  | zero => exact h.elim
  | succ k => exact h.1
theorem zR_s {g : GG} {r : GR} : ∀ {k a S s t n : Nat}, zR g r k a S s t n → zR g r (k + 1) a S s t n := by
  intro k
  induction k with
  | zero => intro a S s t n h; exact h.elim
  | succ k ih =>
    intro a S s t n h
    obtain ⟨h1, j, d, p, c, h2, h3⟩ := h
    exact ⟨h1, j, d, p, c, zAp_mono (fun _ _ _ _ _ q => ih q) h2, h3⟩
theorem zR_m {g : GG} {r : GR} {k a S s t n : Nat} (h : zR g r k a S s t n) : ∀ m, zR g r (k + m) a S s t n := by
  intro m
  induction m with
  | zero => exact h
  | succ m ih => exact zR_s ih
theorem zR_ne {g : GG} {r : GR} {k a S s t n : Nat} (h : zR g r k a S s t n) : ¬ s = t := by
  cases k with
  | zero => exact h.elim
  | succ k => exact h.1
theorem zNd_0 {g : GG} {v : Nat} (h : zNd g 0 v) : False := by
  obtain ⟨i, -, h2, -⟩ := h
  rw [Nat.zero_testBit] at h2
  exact absurd h2 (by decide)
theorem zNd_th {g : GG} {S : Nat} {p : Nat → Nat} (h : zTh S p) {i v : Nat} (hi : i < 3) (q : zNd g (p i) v) : zNd g S v := by
  obtain ⟨e, e1, e2, e3⟩ := q
  exact ⟨e, e1, (h.2.1 e).mpr ⟨i, hi, e2⟩, e3⟩
theorem zEd_Nd {g : GG} {S a s t v : Nat} (h : zEd g S a s t) (q : zNd g S v) : v = s ∨ v = t := by
  obtain ⟨i, h1, h2, h3, h4, h5⟩ := h
  obtain ⟨e, e1, e2, e3⟩ := q
  rw [h2, Nat.testBit_two_pow] at e2
  have e4 : i = e := of_decide_eq_true e2
  subst e4
  rcases e3 with e3 | e3
  · exact Or.inl (e3.symm.trans h4)
  · exact Or.inr (e3.symm.trans h5)
theorem zEd_ends {g : GG} {S a s t : Nat} (h : zEd g S a s t) : zNd g S s ∧ zNd g S t := by
  obtain ⟨i, h1, h2, h3, h4, h5⟩ := h
  have hb : S.testBit i = true := by rw [h2, Nat.testBit_two_pow]; exact decide_eq_true rfl
  exact ⟨⟨i, h1, hb, Or.inl h4⟩, ⟨i, h1, hb, Or.inr h5⟩⟩
/-- what the class counts, the reference counts -/
theorem zC_R {g : GG} {r : GR} : ∀ {k a S s t n : Nat}, zC g r k a S s t n → zR g r k a S s t n := by
  intro k
  induction k with
  | zero => intro a S s t n h; exact h.elim
  | succ k ih =>
    intro a S s t n h
    obtain ⟨h1, j, d, p, c, h2⟩ := h
    refine ⟨h1.1, j, d, p, c, zAp_mono (fun _ _ _ _ _ q => ih q) h2, ?_⟩
    obtain ⟨a1, a2, a3, a4, a5, a6, a7, a8⟩ := h2
    intro i i2 hi hi2 hne v q1 q2
    have ho : zOd g (p i) v := by
      obtain ⟨e, e1, e2, e3⟩ := q2
      exact ⟨e, e1, a6.2.2 i2 i hi2 hi (fun z => hne z.symm) e e2, e3⟩
    rcases a7 i hi with ⟨-, b2, -⟩ | ⟨b1, b2, ⟨b3, b4⟩ | ⟨b3, b4, b5⟩⟩
    · rw [b2] at q1; exact (zNd_0 q1).elim
    · exact (zC_P b4).2.2.2 v q1 (Or.inl ho)
    · exact zEd_Nd b5 q1
/-- rules as they are read -/
def yWF (r : GR) : Prop := ∀ j, j < yM r → yO r j < 3 ∧ 1 ≤ yS r j ∧ yS r j ≤ 3 ∧ (∀ i, i < yS r j → yL r j i < 5 ∧ yF r j i < yW r j ∧ yT r j i < yW r j) ∧ (∃ i, i < yS r j ∧ (yF r j i = 0 ∨ yT r j i = 0)) ∧ (∃ i, i < yS r j ∧ (yF r j i = 1 ∨ yT r j i = 1)) ∧ (yS r j = 1 → yW r j = 2)
theorem zR_ends {g : GG} {r : GR} (hW : yWF r) : ∀ {k a S s t n : Nat}, zR g r k a S s t n → zNd g S s ∧ zNd g S t := by
  intro k
  induction k with
  | zero => intro a S s t n h; exact h.elim
  | succ k ih =>
    intro a S s t n h
    obtain ⟨h1, j, d, p, c, ⟨a1, a2, a3, a4, a5, a6, a7, a8⟩, h3⟩ := h
    obtain ⟨w1, w2, w3, w4, ⟨i, i1, i2⟩, ⟨l, l1, l2⟩, -⟩ := hW j a1
    have hs : ∀ i, i < yS r j → zNd g (p i) (d (yF r j i)) ∧ zNd g (p i) (d (yT r j i)) := fun i hi => by
      rcases a7 i (by omega) with ⟨b1, -, -⟩ | ⟨b1, b2, ⟨b3, b4⟩ | ⟨b3, b4, b5⟩⟩
      · omega
      · exact ih b4
      · exact zEd_ends b5
    constructor
    · apply zNd_th a6 (i := i) (by omega)
      rcases i2 with e | e
      · have := (hs i i1).1; rw [e, a3] at this; exact this
      · have := (hs i i1).2; rw [e, a3] at this; exact this
    · apply zNd_th a6 (i := l) (by omega)
      rcases l2 with e | e
      · have := (hs l l1).1; rw [e, a4] at this; exact this
      · have := (hs l l1).2; rw [e, a4] at this; exact this
/-- and the other way round, for a part -/
theorem zR_C {g : GG} {r : GR} (hW : yWF r) : ∀ {k a S s t n : Nat}, zR g r k a S s t n → zP g S s t → zC g r k a S s t n := by
  intro k
  induction k with
  | zero => intro a S s t n h; exact h.elim
  | succ k ih =>
    intro a S s t n h hP
    obtain ⟨h1, j, d, p, c, ⟨a1, a2, a3, a4, a5, a6, a7, a8⟩, h3⟩ := h
    refine ⟨hP, j, d, p, c, a1, a2, a3, a4, a5, a6, ?_, a8⟩
    obtain ⟨w1, w2, w3, w4, ⟨i0, i1, i2⟩, ⟨l0, l1, l2⟩, -⟩ := hW j a1
    have hs : ∀ i, i < yS r j → zNd g (p i) (d (yF r j i)) ∧ zNd g (p i) (d (yT r j i)) := fun i hi => by
      rcases a7 i (by omega) with ⟨b1, -, -⟩ | ⟨b1, b2, ⟨b3, b4⟩ | ⟨b3, b4, b5⟩⟩
      · omega
      · exact zR_ends hW b4
      · exact zEd_ends b5
    -- a node of a part that is an end of the whole is an end of the part
    have hend : ∀ i, i < yS r j → ∀ v, zNd g (p i) v → (v = s ∨ v = t) → v = d (yF r j i) ∨ v = d (yT r j i) := fun i hi v q1 q2 => by
      have key : ∀ l, l < yS r j → (v = d (yF r j l) ∨ v = d (yT r j l)) → v = d (yF r j i) ∨ v = d (yT r j i) := fun l hl q3 => by
        by_cases e : i = l
        · rw [e]; exact q3
        · refine h3 i l (by omega) (by omega) e v q1 ?_
          rcases q3 with q3 | q3
          · rw [q3]; exact (hs l hl).1
          · rw [q3]; exact (hs l hl).2
      rcases q2 with q2 | q2
      · apply key i0 i1
        rcases i2 with e | e
        · left; rw [e, a3]; exact q2
        · right; rw [e, a3]; exact q2
      · apply key l0 l1
        rcases l2 with e | e
        · left; rw [e, a4]; exact q2
        · right; rw [e, a4]; exact q2
    intro i hi
    rcases a7 i hi with b | ⟨b1, b2, ⟨b3, b4⟩ | b3⟩
    · exact Or.inl b
    · refine Or.inr ⟨b1, b2, Or.inl ⟨b3, ih b4 ⟨zR_ne b4, (hs i b1).1, (hs i b1).2, ?_⟩⟩⟩
      intro v q1 q2
      rcases q2 with ⟨e, e1, e2, e3⟩ | q2
      · by_cases z : S.testBit e = true
        · obtain ⟨i2', x1, x2⟩ := (a6.2.1 e).mp z
          have hne : ¬ i = i2' := fun y => by rw [← y, e2] at x2; exact absurd x2 (by decide)
          exact h3 i i2' hi x1 hne v q1 ⟨e, e1, x2, e3⟩
        · have z2 : S.testBit e = false := by
            cases hz : S.testBit e with
            | true => exact absurd hz z
            | false => rfl
          exact hend i b1 v q1 (hP.2.2.2 v (zNd_th a6 hi q1) (Or.inl ⟨e, e1, z2, e3⟩))
      · exact hend i b1 v q1 (hP.2.2.2 v (zNd_th a6 hi q1) (Or.inr q2))
    · exact Or.inr ⟨b1, b2, Or.inr b3⟩
/-- the whole graph is a part -/
theorem zP_all {g : GG} {r : GR} (hW : yWF r) {k a S n : Nat} (hS : ∀ i, i < zE g → S.testBit i = true) (h : zR g r k a S 0 1 n) : zP g S 0 1 := by
  refine ⟨by decide, (zR_ends hW h).1, (zR_ends hW h).2, ?_⟩
  intro v _ q
  rcases q with ⟨e, e1, e2, -⟩ | q
  · rw [hS e e1] at e2; exact absurd e2 (by decide)
  · exact q
/-- the part is the other way round a part too -/
theorem zP_sym {g : GG} {S s t : Nat} (h : zP g S s t) : zP g S t s := ⟨fun e => h.1 e.symm, h.2.2.1, h.2.1, fun v q1 q2 => (h.2.2.2 v q1 q2).symm⟩
/-- a derivation ends with a rule whose parts are smaller, or with a rule of one open edge -/
def zBs (g : GG) (r : GR) (k a S s t n : Nat) : Prop := zP g S s t ∧ ∃ j d p c, zAp g r (fun a2 p2 s2 t2 n2 => p2 < S ∧ zC g r k a2 p2 s2 t2 n2) j d p c a S s t n
def zSg (r : GR) (j a a2 u v s t : Nat) : Prop := j < yM r ∧ yS r j = 1 ∧ yO r j = a ∧ yL r j 0 = a2 ∧ a2 < 3 ∧ ((yF r j 0 = 0 ∧ yT r j 0 = 1 ∧ u = s ∧ v = t) ∨ (yF r j 0 = 1 ∧ yT r j 0 = 0 ∧ u = t ∧ v = s))
theorem zC_cases {g : GG} {r : GR} (hW : yWF r) {k a S s t n : Nat} (h : zC g r (k + 1) a S s t n) : zBs g r k a S s t n ∨ ∃ j a2 u v n2, zSg r j a a2 u v s t ∧ zC g r k a2 S u v n2 ∧ n = 1 + n2 := by
  obtain ⟨hP, j, d, p, c, a1, a2, a3, a4, a5, a6, a7, a8⟩ := h
  obtain ⟨w1, w2, w3, w4, ⟨i0, i1, i2⟩, ⟨l0, l1, l2⟩, -⟩ := hW j a1
  have hsum := a6.1
  by_cases hz : yS r j = 1
  · have m1 : p 1 = 0 ∧ c 1 = 0 := by
      rcases a7 1 (by decide) with ⟨-, b2, b3⟩ | ⟨b1, -⟩
      · exact ⟨b2, b3⟩
      · omega
    have m2 : p 2 = 0 ∧ c 2 = 0 := by
      rcases a7 2 (by decide) with ⟨-, b2, b3⟩ | ⟨b1, -⟩
      · exact ⟨b2, b3⟩
      · omega
    have hp0 : p 0 = S := by omega
    rcases a7 0 (by decide) with ⟨b1, -, -⟩ | ⟨b1, b2, ⟨b3, b4⟩ | ⟨b3, b4, b5⟩⟩
    · omega
    · right
      have e0 : i0 = 0 := by omega
      have e1 : l0 = 0 := by omega
      rw [e0] at i2
      rw [e1] at l2
      rw [hp0] at b4
      rcases i2 with x | x
      · have y : yT r j 0 = 1 := by
          rcases l2 with y | y
          · omega
          · exact y
        rw [x, y, a3, a4] at b4
        exact ⟨j, _, s, t, c 0, ⟨a1, hz, a2, rfl, b3, Or.inl ⟨x, y, rfl, rfl⟩⟩, b4, by omega⟩
      · have y : yF r j 0 = 1 := by
          rcases l2 with y | y
          · exact y
          · omega
        rw [x, y, a3, a4] at b4
        exact ⟨j, _, t, s, c 0, ⟨a1, hz, a2, rfl, b3, Or.inr ⟨y, x, rfl, rfl⟩⟩, b4, by omega⟩
    · left
      refine ⟨hP, j, d, p, c, a1, a2, a3, a4, a5, a6, ?_, a8⟩
      intro i hi
      by_cases ei : i = 0
      · subst ei; exact Or.inr ⟨b1, b2, Or.inr ⟨b3, b4, b5⟩⟩
      · rcases a7 i hi with b | ⟨b6, -⟩
        · exact Or.inl b
        · omega
  · left
    refine ⟨hP, j, d, p, c, a1, a2, a3, a4, a5, a6, ?_, a8⟩
    have n0 : ¬ p 0 = 0 := by
      rcases a7 0 (by decide) with ⟨b1, -, -⟩ | ⟨-, b2, -⟩
      · omega
      · exact b2
    have n1 : ¬ p 1 = 0 := by
      rcases a7 1 (by decide) with ⟨b1, -, -⟩ | ⟨-, b2, -⟩
      · omega
      · exact b2
    intro i hi
    have hlt : p i < S := by
      rcases (show i = 0 ∨ i = 1 ∨ i = 2 by omega) with e | e | e <;> subst e <;> omega
    rcases a7 i hi with b | ⟨b1, b2, ⟨b3, b4⟩ | b3⟩
    · exact Or.inl b
    · exact Or.inr ⟨b1, b2, Or.inl ⟨b3, hlt, b4⟩⟩
    · exact Or.inr ⟨b1, b2, Or.inr b3⟩
/-- counting -/
noncomputable def zct (P : Nat → Prop) : Nat → Nat
  | 0 => 0
  | n + 1 => zct P n + @ite Nat (P n) (Classical.propDecidable _) 1 0
theorem zct_y {P : Nat → Prop} {n : Nat} (h : P n) : zct P (n + 1) = zct P n + 1 := by rw [zct, if_pos h]
theorem zct_n {P : Nat → Prop} {n : Nat} (h : ¬ P n) : zct P (n + 1) = zct P n := by rw [zct, if_neg h]; rfl
theorem zct_sub {P Q : Nat → Prop} (h : ∀ a, P a → Q a) : ∀ n, zct P n ≤ zct Q n := by
  intro n
  induction n with
  | zero => exact Nat.le_refl _
  | succ n ih =>
    by_cases q : Q n
    · rw [zct_y q]
      by_cases p : P n
      · rw [zct_y p]; omega
      · rw [zct_n p]; omega
    · rw [zct_n q, zct_n (fun p => q (h n p))]; exact ih
theorem zct_lt {P Q : Nat → Prop} (h : ∀ a, P a → Q a) {b : Nat} (hq : Q b) (hp : ¬ P b) : ∀ n, b < n → zct P n + 1 ≤ zct Q n := by
  intro n
  induction n with
  | zero => intro q; omega
  | succ n ih =>
    intro hb
    by_cases e : b = n
    · subst e
      rw [zct_y hq, zct_n hp]
      have := zct_sub h b
      omega
    · have := ih (by omega)
      by_cases q : Q n
      · rw [zct_y q]
        by_cases p : P n
        · rw [zct_y p]; omega
        · rw [zct_n p]; omega
      · rw [zct_n q, zct_n (fun p => q (h n p))]; exact this
theorem zct_le (P : Nat → Prop) : ∀ n, zct P n ≤ n := by
  intro n
  induction n with
  | zero => exact Nat.le_refl _
  | succ n ih =>
    by_cases p : P n
    · rw [zct_y p]; omega
    · rw [zct_n p]; omega
theorem zct_all {P : Nat → Prop} : ∀ n, (∀ a, a < n → P a) → zct P n = n := by
  intro n
  induction n with
  | zero => intro _; rfl
  | succ n ih => intro h; rw [zct_y (h n (by omega)), ih (fun a ha => h a (by omega))]
theorem zct_full {P : Nat → Prop} {n : Nat} (h : n ≤ zct P n) {a : Nat} (ha : a < n) : P a := by
  apply Classical.byContradiction
  intro q
  have := zct_lt (P := P) (Q := fun _ => True) (fun _ _ => trivial) (b := a) trivial q n ha
  have := zct_le (fun _ => True) n
  omega
/-- the six states of a set and two nodes -/
def zX (s t i : Nat) : Nat := if i < 3 then s else t
def zY (s t i : Nat) : Nat := if i < 3 then t else s
theorem zXY {s t a u v : Nat} (ha : a < 3) (h : (u = s ∧ v = t) ∨ (u = t ∧ v = s)) : ∃ i, i < 6 ∧ i % 3 = a ∧ zX s t i = u ∧ zY s t i = v := by
  rcases h with ⟨h1, h2⟩ | ⟨h1, h2⟩
  · exact ⟨a, by omega, by omega, by rw [zX, if_pos ha, h1], by rw [zY, if_pos ha, h2]⟩
  · exact ⟨a + 3, by omega, by omega, by rw [zX, if_neg (by omega), h1], by rw [zY, if_neg (by omega), h2]⟩
theorem zXY2 (s t i : Nat) : (zX s t i = s ∧ zY s t i = t) ∨ (zX s t i = t ∧ zY s t i = s) := by
  by_cases h : i < 3
  · exact Or.inl ⟨by rw [zX, if_pos h], by rw [zY, if_pos h]⟩
  · exact Or.inr ⟨by rw [zX, if_neg h], by rw [zY, if_neg h]⟩
/-- where anything leads there, few steps do -/
def zFe (g : GG) (r : GR) (b a S s t : Nat) : Prop := ∃ k n, n ≤ b ∧ zC g r k a S s t n
theorem zFe_le {g : GG} {r : GR} {b b2 a S s t : Nat} (hb : b ≤ b2) (h : zFe g r b a S s t) : zFe g r b2 a S s t := by
  obtain ⟨k, n, h1, h2⟩ := h
  exact ⟨k, n, by omega, h2⟩
/-- a rule put on small parts -/
theorem zFe_bs {g : GG} {r : GR} {S : Nat} (ih : ∀ p, p < S → ∀ k a s t n, zC g r k a p s t n → zFe g r (14 * p - 7) a p s t) {k a s t n : Nat} (hW : yWF r) (h : zBs g r k a S s t n) : zFe g r (14 * S - 13) a S s t := by
  obtain ⟨hP, j, d, p, c, a1, a2, a3, a4, a5, a6, a7, a8⟩ := h
  have hsum := a6.1
  have w2 := (hW j a1).2.1
  have hsl : ∀ i, i < 3 → ∃ k2 n2, zSl g r (zC g r k2) j i d (p i) n2 ∧ n2 ≤ 14 * p i - 7 := fun i hi => by
    rcases a7 i hi with ⟨b1, b2, b3⟩ | ⟨b1, b2, ⟨b3, b4, b5⟩ | ⟨b3, b4, b5⟩⟩
    · exact ⟨0, 0, Or.inl ⟨b1, b2, rfl⟩, by omega⟩
    · obtain ⟨k2, n2, e1, e2⟩ := ih _ b4 _ _ _ _ _ b5
      exact ⟨k2, n2, Or.inr ⟨b1, b2, Or.inl ⟨b3, e2⟩⟩, e1⟩
    · exact ⟨0, 0, Or.inr ⟨b1, b2, Or.inr ⟨b3, rfl, b5⟩⟩, by omega⟩
  obtain ⟨k0, n0, s0, l0⟩ := hsl 0 (by decide)
  obtain ⟨k1, n1, s1, l1⟩ := hsl 1 (by decide)
  obtain ⟨k2, n2, s2, l2⟩ := hsl 2 (by decide)
  -- slots are filled from the first on
  have hp0 : ¬ p 0 = 0 := by
    rcases s0 with ⟨b1, -, -⟩ | ⟨-, b2, -⟩
    · omega
    · exact b2
  have hone : yS r j = 1 → n0 = 0 := fun e => by
    rcases a7 1 (by decide) with ⟨-, b2, -⟩ | ⟨b1, -⟩
    · rcases a7 2 (by decide) with ⟨-, b3, -⟩ | ⟨b1, -⟩
      · rcases a7 0 (by decide) with ⟨b1, -, -⟩ | ⟨b1, b4, ⟨b5, b6, -⟩ | ⟨b5, b6, b7⟩⟩
        · omega
        · omega
        · rcases s0 with ⟨b8, -, -⟩ | ⟨-, -, ⟨b8, -⟩ | ⟨-, b8, -⟩⟩
          · omega
          · omega
          · exact b8
      · omega
    · omega
  have htwo : 2 ≤ yS r j → ¬ p 1 = 0 := fun e => by
    rcases a7 1 (by decide) with ⟨b1, -, -⟩ | ⟨-, b2, -⟩
    · omega
    · exact b2
  have hmiss1 : yS r j ≤ 1 → n1 = 0 ∧ n2 = 0 := fun e => by
    constructor
    · rcases s1 with ⟨-, -, b⟩ | ⟨b, -⟩
      · exact b
      · omega
    · rcases s2 with ⟨-, -, b⟩ | ⟨b, -⟩
      · exact b
      · omega
  refine ⟨k0 + k1 + k2 + 1, 1 + n0 + n1 + n2, ?_, hP, j, d, p, fun i => if i = 0 then n0 else if i = 1 then n1 else n2, a1, a2, a3, a4, a5, a6, ?_, rfl⟩
  · by_cases e : yS r j = 1
    · have := hone e
      have := hmiss1 (by omega)
      omega
    · have := htwo (by omega)
      omega
  · intro i hi
    rcases (show i = 0 ∨ i = 1 ∨ i = 2 by omega) with e | e | e
    · subst e
      exact zSl_mono (fun _ _ _ _ _ q => by rw [show k0 + k1 + k2 = k0 + (k1 + k2) by omega]; exact zC_m q _) s0
    · subst e
      exact zSl_mono (fun _ _ _ _ _ q => by rw [show k0 + k1 + k2 = k1 + (k0 + k2) by omega]; exact zC_m q _) s1
    · subst e
      exact zSl_mono (fun _ _ _ _ _ q => by rw [show k0 + k1 + k2 = k2 + (k0 + k1) by omega]; exact zC_m q _) s2
/-- one rule more, with one open edge -/
theorem zTh_1 (S : Nat) : zTh S (fun i => if i = 0 then S else 0) := by
  refine ⟨rfl, fun b => ⟨fun h => ⟨0, by decide, h⟩, ?_⟩, ?_⟩
  · rintro ⟨i, hi, h⟩
    by_cases e : i = 0
    · rw [e] at h; exact h
    · have h2 : (0 : Nat).testBit b = true := by
        have h3 : (if i = 0 then S else 0) = 0 := if_neg e
        rw [← h3]; exact h
      rw [Nat.zero_testBit] at h2
      exact absurd h2 (by decide)
  · intro i i2 hi hi2 hne b h
    by_cases e : i2 = 0
    · have h3 : (if i = 0 then S else 0) = 0 := if_neg (fun z => hne (z.trans e.symm))
      have h2 : (0 : Nat).testBit b = true := by rw [← h3]; exact h
      rw [Nat.zero_testBit] at h2
      exact absurd h2 (by decide)
    · show (if i2 = 0 then S else 0).testBit b = false
      rw [if_neg e, Nat.zero_testBit]
theorem zSg_ap {g : GG} {r : GR} (hW : yWF r) {D : Nat → Nat → Nat → Nat → Nat → Prop} {j a a2 u v S s t n : Nat} (hq : zSg r j a a2 u v s t) (hS : ¬ S = 0) (h : D a2 S u v n) : zAp g r D j (fun i => if i = 0 then s else t) (fun i => if i = 0 then S else 0) (fun i => if i = 0 then n else 0) a S s t (1 + n) := by
  obtain ⟨q1, q2, q3, q4, q5, q6⟩ := hq
  have hw2 := (hW j q1).2.2.2.2.2.2 q2
  refine ⟨q1, q3, rfl, rfl, fun k h1 h2 => by omega, zTh_1 S, ?_, rfl⟩
  intro i hi
  by_cases e : i = 0
  · subst e
    refine Or.inr ⟨by omega, hS, Or.inl ⟨by omega, ?_⟩⟩
    rcases q6 with ⟨x1, x2, x3, x4⟩ | ⟨x1, x2, x3, x4⟩
    · rw [x1, x2, q4, ← x3, ← x4]; exact h
    · rw [x1, x2, q4]
      show D a2 S t s n
      rw [← x3, ← x4]; exact h
  · exact Or.inl ⟨by omega, if_neg e, if_neg e⟩
theorem zNd_ne {g : GG} {S v : Nat} (h : zNd g S v) : ¬ S = 0 := fun e => by rw [e] at h; exact zNd_0 h
theorem zC_sg {g : GG} {r : GR} (hW : yWF r) {k j a a2 u v S s t n : Nat} (hq : zSg r j a a2 u v s t) (hP : zP g S s t) (h : zC g r k a2 S u v n) : zC g r (k + 1) a S s t (1 + n) := ⟨hP, j, _, _, _, zSg_ap hW hq (zNd_ne hP.2.1) h⟩
theorem zSg_pr {r : GR} {j a a2 u v s t x y : Nat} (hq : zSg r j a a2 u v s t) (h : (s = x ∧ t = y) ∨ (s = y ∧ t = x)) : (u = x ∧ v = y) ∨ (u = y ∧ v = x) := by
  rcases hq.2.2.2.2.2 with ⟨-, -, h1, h2⟩ | ⟨-, -, h1, h2⟩ <;> omega
/-- a longer chain passes by more states -/
theorem zFe_step {g : GG} {r : GR} (hW : yWF r) {S b x y : Nat} (hb : ∀ k a s t n, zBs g r k a S s t n → zFe g r b a S s t) : ∀ k a s t n, a < 3 → ((s = x ∧ t = y) ∨ (s = y ∧ t = x)) → zC g r k a S s t n → zFe g r b a S s t ∨ ∃ a2 u v, a2 < 3 ∧ ((u = x ∧ v = y) ∨ (u = y ∧ v = x)) ∧ ¬ zFe g r b a2 S u v ∧ zFe g r (b + 1) a2 S u v := by
  intro k
  induction k with
  | zero => intro a s t n _ _ h; exact h.elim
  | succ k ih =>
    intro a s t n ha hp h
    have hP := zC_P h
    rcases zC_cases hW h with q | ⟨j, a2, u, v, n2, q1, q2, q3⟩
    · exact Or.inl (hb _ _ _ _ _ q)
    · have hu := zSg_pr q1 hp
      rcases ih a2 u v n2 q1.2.2.2.2.1 hu q2 with w | w
      · by_cases z : zFe g r b a S s t
        · exact Or.inl z
        · obtain ⟨k3, n3, w1, w2⟩ := w
          exact Or.inr ⟨a, s, t, ha, hp, z, k3 + 1, 1 + n3, by omega, zC_sg hW q1 hP w2⟩
      · exact Or.inr w
theorem zFe_all {g : GG} {r : GR} (hW : yWF r) : ∀ S k a s t n, a < 3 → zC g r k a S s t n → zFe g r (14 * S - 7) a S s t := by
  intro S
  induction S using Nat.strongRecOn with
  | _ S ih =>
    intro k a s t n ha h
    have hS := zNd_ne (zC_P h).2.1
    have hb : ∀ k a s t n, zBs g r k a S s t n → zFe g r (14 * S - 13) a S s t := fun k a s t n q => zFe_bs (S := S) (fun p hp k2 a2 s2 t2 n2 q2 => ih p hp k2 a2 s2 t2 n2 (by
      cases k2 with
      | zero => exact q2.elim
      | succ k2 =>
        obtain ⟨-, j, d, p', c, q3⟩ := q2
        have := (hW j q3.1).1
        have := q3.2.1
        omega) q2) hW q
    have key : ∀ q, q ≤ 6 → (∀ k a2 u v n, a2 < 3 → ((u = s ∧ v = t) ∨ (u = t ∧ v = s)) → zC g r k a2 S u v n → zFe g r (14 * S - 13 + q) a2 S u v) ∨ q ≤ zct (fun i => zFe g r (14 * S - 13 + q) (i % 3) S (zX s t i) (zY s t i)) 6 := by
      intro q
      induction q with
      | zero => intro _; exact Or.inr (Nat.zero_le _)
      | succ q ihq =>
        intro hq
        by_cases z : ∀ k a2 u v n, a2 < 3 → ((u = s ∧ v = t) ∨ (u = t ∧ v = s)) → zC g r k a2 S u v n → zFe g r (14 * S - 13 + q) a2 S u v
        · exact Or.inl (fun k a2 u v n h1 h2 h3 => zFe_le (by omega) (z k a2 u v n h1 h2 h3))
        · rcases ihq (by omega) with w | w
          · exact absurd w z
          · have z2 : ∃ a2 u v, a2 < 3 ∧ ((u = s ∧ v = t) ∨ (u = t ∧ v = s)) ∧ ¬ zFe g r (14 * S - 13 + q) a2 S u v ∧ zFe g r (14 * S - 13 + q + 1) a2 S u v := by
              apply Classical.byContradiction
              intro no
              refine z (fun k a2 u v n h1 h2 h3 => ?_)
              rcases zFe_step hW (b := 14 * S - 13 + q) (x := s) (y := t) (fun k a s t n q => zFe_le (by omega) (hb k a s t n q)) k a2 u v n h1 h2 h3 with y | y
              · exact y
              · exact absurd y no
            obtain ⟨a2, u, v, x1, x2, x3, x4⟩ := z2
            obtain ⟨i, i1, i2, i3, i4⟩ := zXY x1 x2
            refine Or.inr (Nat.le_trans (Nat.succ_le_succ w) ?_)
            exact zct_lt (P := fun i => zFe g r (14 * S - 13 + q) (i % 3) S (zX s t i) (zY s t i)) (Q := fun i => zFe g r (14 * S - 13 + (q + 1)) (i % 3) S (zX s t i) (zY s t i)) (fun a h => zFe_le (by omega) h) (b := i) (by show zFe g r (14 * S - 13 + (q + 1)) (i % 3) S (zX s t i) (zY s t i); rw [i2, i3, i4]; exact x4) (by show ¬ zFe g r (14 * S - 13 + q) (i % 3) S (zX s t i) (zY s t i); rw [i2, i3, i4]; exact x3) 6 i1
    have e : 14 * S - 13 + 6 = 14 * S - 7 := by omega
    rcases key 6 (Nat.le_refl _) with q | q
    · rw [e] at q; exact q k a s t n ha (Or.inl ⟨rfl, rfl⟩) h
    · rw [e] at q
      have := zct_full q (a := a) (by omega)
      have w : zFe g r (14 * S - 7) (a % 3) S (zX s t a) (zY s t a) := this
      rw [show a % 3 = a by omega, zX, zY, if_pos ha, if_pos ha] at w
      exact w
/-- the class's rounds over one set: T is a table of letter, set, nodes -/
def zEx (g : GG) (r : GR) (T : Nat → Nat → Nat → Nat → Nat) (a S s t : Nat) : Prop := ∀ k n, zC g r k a S s t n → T a S s t ≤ n
def zBt (g : GG) (r : GR) (T : Nat → Nat → Nat → Nat → Nat) (S : Nat) : Prop := ∀ k a s t n, zBs g r k a S s t n → T a S s t ≤ n
def zS1 (g : GG) (r : GR) (T T2 : Nat → Nat → Nat → Nat → Nat) (S : Nat) : Prop := (∀ a s t, T2 a S s t ≤ T a S s t) ∧ ∀ j a a2 u v s t, zSg r j a a2 u v s t → zP g S s t → T2 a S s t ≤ 1 + T a2 S u v
theorem zRd {g : GG} {r : GR} (hW : yWF r) {T T2 : Nat → Nat → Nat → Nat → Nat} {S x y : Nat} (hB : zBt g r T2 S) (h1 : zS1 g r T T2 S) : ∀ m n a s t k, n ≤ m → a < 3 → ((s = x ∧ t = y) ∨ (s = y ∧ t = x)) → zC g r k a S s t n → n < T a S s t → ∃ a2 u v, a2 < 3 ∧ ((u = x ∧ v = y) ∨ (u = y ∧ v = x)) ∧ zEx g r T2 a2 S u v ∧ ¬ zEx g r T a2 S u v := by
  intro m
  induction m with
  | zero =>
    intro n a s t k hn ha hp h hl
    cases k with
    | zero => exact h.elim
    | succ k =>
      obtain ⟨-, j, d, p, c, q⟩ := h
      have := q.2.2.2.2.2.2.2
      omega
  | succ m ih =>
    intro n a s t k hn ha hp h hl
    by_cases z : ∃ n2 a2 s2 t2 k2, n2 < n ∧ a2 < 3 ∧ ((s2 = x ∧ t2 = y) ∨ (s2 = y ∧ t2 = x)) ∧ zC g r k2 a2 S s2 t2 n2 ∧ n2 < T a2 S s2 t2
    · obtain ⟨n2, a2, s2, t2, k2, z1, z2, z3, z4, z5⟩ := z
      exact ih n2 a2 s2 t2 k2 (by omega) z2 z3 z4 z5
    · have least : ∀ n2 a2 s2 t2 k2, n2 < n → a2 < 3 → ((s2 = x ∧ t2 = y) ∨ (s2 = y ∧ t2 = x)) → zC g r k2 a2 S s2 t2 n2 → T a2 S s2 t2 ≤ n2 := fun n2 a2 s2 t2 k2 z1 z2 z3 z4 => by
        rcases Nat.lt_or_ge n2 (T a2 S s2 t2) with w | w
        · exact absurd ⟨n2, a2, s2, t2, k2, z1, z2, z3, z4, w⟩ z
        · exact w
      have hT : T2 a S s t ≤ n := by
        cases k with
        | zero => exact h.elim
        | succ k =>
          have hP := zC_P h
          rcases zC_cases hW h with q | ⟨j, a2, u, v, n2, q1, q2, q3⟩
          · exact hB _ _ _ _ _ q
          · have := least n2 a2 u v k (by omega) q1.2.2.2.2.1 (zSg_pr q1 hp) q2
            have := h1.2 j a a2 u v s t q1 hP
            omega
      refine ⟨a, s, t, ha, hp, ?_, fun w => by have := w k n h; omega⟩
      intro k2 n2 h2
      rcases Nat.lt_or_ge n2 n with w | w
      · exact Nat.le_trans (h1.1 a s t) (least n2 a s t k2 w ha hp h2)
      · omega
/-- q rounds made at least q of the six states right -/
def zQ (g : GG) (r : GR) (T : Nat → Nat → Nat → Nat → Nat) (S q : Nat) : Prop := ∀ s t, q ≤ zct (fun i => zEx g r T (i % 3) S (zX s t i) (zY s t i)) 6
theorem zQ_0 {g : GG} {r : GR} {T : Nat → Nat → Nat → Nat → Nat} {S : Nat} : zQ g r T S 0 := fun _ _ => Nat.zero_le _
theorem zEx_le {g : GG} {r : GR} {T T2 : Nat → Nat → Nat → Nat → Nat} {S a s t : Nat} (h1 : zS1 g r T T2 S) (h : zEx g r T a S s t) : zEx g r T2 a S s t := fun k n q => Nat.le_trans (h1.1 a s t) (h k n q)
theorem zEx_no {g : GG} {r : GR} {T : Nat → Nat → Nat → Nat → Nat} {S a s t : Nat} (h : ¬ zEx g r T a S s t) : ∃ k n, zC g r k a S s t n ∧ n < T a S s t := by
  apply Classical.byContradiction
  intro q
  refine h (fun k n w => ?_)
  rcases Nat.lt_or_ge n (T a S s t) with z | z
  · exact absurd ⟨k, n, w, z⟩ q
  · exact z
theorem zQ_s {g : GG} {r : GR} (hW : yWF r) {T T2 : Nat → Nat → Nat → Nat → Nat} {S q : Nat} (hB : zBt g r T2 S) (h1 : zS1 g r T T2 S) (hq : q < 6) (h : zQ g r T S q) : zQ g r T2 S (q + 1) := by
  intro s t
  by_cases z : ∃ i, i < 6 ∧ ¬ zEx g r T (i % 3) S (zX s t i) (zY s t i)
  · obtain ⟨i, i1, i2⟩ := z
    obtain ⟨k, n, i3, i4⟩ := zEx_no i2
    obtain ⟨a2, u, v, x1, x2, x3, x4⟩ := zRd hW (x := s) (y := t) hB h1 n n (i % 3) _ _ k (Nat.le_refl _) (by omega) (zXY2 s t i) i3 i4
    obtain ⟨l, l1, l2, l3, l4⟩ := zXY x1 x2
    refine Nat.le_trans (Nat.succ_le_succ (h s t)) ?_
    exact zct_lt (P := fun i => zEx g r T (i % 3) S (zX s t i) (zY s t i)) (Q := fun i => zEx g r T2 (i % 3) S (zX s t i) (zY s t i)) (fun a w => zEx_le h1 w) (b := l) (by show zEx g r T2 (l % 3) S (zX s t l) (zY s t l); rw [l2, l3, l4]; exact x3) (by show ¬ zEx g r T (l % 3) S (zX s t l) (zY s t l); rw [l2, l3, l4]; exact x4) 6 l1
  · have hall : ∀ i, i < 6 → zEx g r T2 (i % 3) S (zX s t i) (zY s t i) := fun i hi => by
      apply zEx_le h1
      apply Classical.byContradiction
      intro w
      exact z ⟨i, hi, w⟩
    rw [zct_all 6 hall]
    omega
/-- six are enough, and so is one that changed nothing -/
theorem zQ_6 {g : GG} {r : GR} {T : Nat → Nat → Nat → Nat → Nat} {S a s t : Nat} (h : zQ g r T S 6) (ha : a < 3) : zEx g r T a S s t := by
  have w : zEx g r T (a % 3) S (zX s t a) (zY s t a) := zct_full (h s t) (a := a) (by omega)
  rw [show a % 3 = a by omega, zX, zY, if_pos ha, if_pos ha] at w
  exact w
theorem zQ_st {g : GG} {r : GR} (hW : yWF r) {T : Nat → Nat → Nat → Nat → Nat} {S a s t : Nat} (hB : zBt g r T S) (h1 : zS1 g r T T S) (ha : a < 3) : zEx g r T a S s t := by
  apply Classical.byContradiction
  intro q
  obtain ⟨k, n, h3, h4⟩ := zEx_no q
  obtain ⟨a2, u, v, x1, x2, x3, x4⟩ := zRd hW (x := s) (y := t) hB h1 n n a s t k (Nat.le_refl _) ha (Or.inl ⟨rfl, rfl⟩) h3 h4
  exact x4 x3
