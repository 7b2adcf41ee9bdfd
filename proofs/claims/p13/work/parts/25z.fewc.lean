/-! the class's search -/
abbrev zF9 : Nat := 536870912
def tbl (f : Nat → Int32) (a S s t : Nat) : Nat := tn (f ((((((a * 32) + S) * 5) + s) * 5) + t))
def TBI (f : Nat → Int32) : Prop := ∀ k, k < 2400 → ∃ q, q ≤ zF9 ∧ f k = nI q
theorem TBI_at {f : Nat → Int32} {k : Nat} (h : TBI f) (hk : k < 2400) : f k = nI (tn (f k)) ∧ tn (f k) ≤ zF9 := by
  obtain ⟨q, hq, e⟩ := h k hk
  have : q < 2147483648 := Nat.lt_of_le_of_lt hq (by decide)
  rw [e, tn_nI this]
  exact ⟨rfl, hq⟩
/-- the rule at hand, as its rows tell it -/
def RJ (gr : GR) (j : Nat) (en ev : Int32) (x2 x3 x4 : Nat → Int32) : Prop := en = nI (yS gr j) ∧ ev = nI (yW gr j) ∧ 1 ≤ yS gr j ∧ yS gr j ≤ 3 ∧ 2 ≤ yW gr j ∧ yW gr j ≤ 4 ∧ (∀ i, i < 3 → x4 i = nI (if i < yS gr j then yL gr j i else 5)) ∧ ∀ i, i < yS gr j → yL gr j i < 5 ∧ yF gr j i < yW gr j ∧ yT gr j i < yW gr j ∧ x2 i = nI (yF gr j i) ∧ x3 i = nI (yT gr j i)
theorem RJ_5 {gr : GR} {j : Nat} {en ev : Int32} {x2 x3 x4 : Nat → Int32} (h : RJ gr j en ev x2 x3 x4) {i : Nat} (hi : i < 3) : x4 i = 5 ↔ ¬ i < yS gr j := by
  obtain ⟨-, -, h1, h3, -, -, h7, h8⟩ := h
  rw [h7 i hi]
  by_cases q : i < yS gr j
  · have := (h8 i q).1
    rw [if_pos q, show (5 : Int32) = nI 5 from rfl, nI_eq (by omega) (by decide)]
    omega
  · rw [if_neg q]
    exact ⟨fun _ => q, fun _ => rfl⟩
theorem RJ_l {gr : GR} {j : Nat} {en ev : Int32} {x2 x3 x4 : Nat → Int32} (h : RJ gr j en ev x2 x3 x4) {i : Nat} (hi : i < 3) (c : ¬ x4 i = 5) : i < yS gr j ∧ x4 i = nI (yL gr j i) ∧ yL gr j i < 5 ∧ yF gr j i < 4 ∧ yT gr j i < 4 ∧ x2 i = nI (yF gr j i) ∧ x3 i = nI (yT gr j i) := by
  have hl : i < yS gr j := by
    apply Classical.byContradiction
    intro q
    exact c ((RJ_5 h hi).mpr q)
  obtain ⟨-, -, h1, h3, h4, h5, h7, h8⟩ := h
  have e := h7 i hi
  rw [if_pos hl] at e
  obtain ⟨a1, a2, a3, a4, a5⟩ := h8 i hl
  exact ⟨hl, e, a1, by omega, by omega, a4, a5⟩
theorem opn_k {k : Nat} (hk : k < 100) : opn (nI k) = 0 ↔ 3 ≤ k := by
  unfold opn
  rw [if_neg (nI_pos (by omega))]
  by_cases q : 3 ≤ nI k
  · rw [if_pos q]
    exact ⟨fun _ => leN (a := 3) (by omega) (by decide) q, fun _ => rfl⟩
  · rw [if_neg q]
    exact ⟨fun w => absurd w (by decide), fun w => absurd (nI_le (a := 3) w (by omega)) q⟩
theorem sl_a {g : GG} {gr : GR} {D : Nat → Nat → Nat → Nat → Nat → Prop} {j i : Nat} {d : Nat → Nat} (h : ¬ i < yS gr j) : zLs zF9 (zSl g gr D j i d 0) 0 := zLs_0 ((zSl_no h).mpr ⟨rfl, rfl⟩)
theorem sl_b {g : GG} {gr : GR} {D : Nat → Nat → Nat → Nat → Nat → Prop} {j i p : Nat} {d : Nat → Nat} (h : ¬ i < yS gr j) (hp : ¬ p = 0) : zLs zF9 (zSl g gr D j i d p) zF9 := zLs_no (fun n q => hp ((zSl_no h).mp q).1)
theorem sl_c {g : GG} {gr : GR} {D : Nat → Nat → Nat → Nat → Nat → Prop} {j i : Nat} {d : Nat → Nat} (h : i < yS gr j) : zLs zF9 (zSl g gr D j i d 0) zF9 := zLs_no (fun n q => ((zSl_sv h).mp q).1 rfl)
theorem sl_d {g : GG} {gr : GR} {f : Nat → Int32} {j i p : Nat} {d : Nat → Nat} (h : i < yS gr j) (hp : ¬ p = 0) (hp2 : p < 32) (hs : d (yF gr j i) < 5) (ht : d (yT gr j i) < 5) (hl : yL gr j i < 3) (hk : tbl f (yL gr j i) p (d (yF gr j i)) (d (yT gr j i)) ≤ zF9) : zLs zF9 (zSl g gr (TD zF9 (tbl f)) j i d p) (tbl f (yL gr j i) p (d (yF gr j i)) (d (yT gr j i))) :=
  ⟨hk, fun q => (zSl_sv h).mpr ⟨hp, Or.inl ⟨hl, ⟨hl, hp2, hs, ht⟩, rfl, q⟩⟩, fun n q => by
    rcases ((zSl_sv h).mp q).2 with ⟨-, -, w, -⟩ | ⟨w, -⟩
    · exact Nat.le_of_eq w.symm
    · omega⟩
theorem sl_e {g : GG} {gr : GR} {D : Nat → Nat → Nat → Nat → Nat → Prop} {j i p : Nat} {d : Nat → Nat} (h : i < yS gr j) (hp : ¬ p = 0) (hl : 3 ≤ yL gr j i) (he : zEd g p (yL gr j i) (d (yF gr j i)) (d (yT gr j i))) : zLs zF9 (zSl g gr D j i d p) 0 := zLs_0 ((zSl_sv h).mpr ⟨hp, Or.inr ⟨hl, rfl, he⟩⟩)
theorem sl_f {g : GG} {gr : GR} {D : Nat → Nat → Nat → Nat → Nat → Prop} {j i p : Nat} {d : Nat → Nat} (h : i < yS gr j) (hl : 3 ≤ yL gr j i) (he : ¬ zEd g p (yL gr j i) (d (yF gr j i)) (d (yT gr j i))) : zLs zF9 (zSl g gr D j i d p) zF9 := zLs_no (fun n q => by
  rcases ((zSl_sv h).mp q).2 with ⟨w, -⟩ | ⟨-, -, w⟩
  · omega
  · exact he w)
/-- all ways of dealing out with the first part below on, and with on and the second below tw -/
def zSpI (Z : Nat → Nat → Nat → Prop) (S on l : Nat) : Prop := l ≤ zF9 ∧ (l < zF9 → zSp Z S l) ∧ ∀ p c : Nat → Nat, zTh S p → (∀ i, i < 3 → Z i (p i) (c i)) → p 0 < on → l ≤ c 0 + c 1 + c 2
def zSpJ (Z : Nat → Nat → Nat → Prop) (S on tw l : Nat) : Prop := l ≤ zF9 ∧ (l < zF9 → zSp Z S l) ∧ ∀ p c : Nat → Nat, zTh S p → (∀ i, i < 3 → Z i (p i) (c i)) → (p 0 < on ∨ (p 0 = on ∧ p 1 < tw)) → l ≤ c 0 + c 1 + c 2
theorem zSpI_0 {Z : Nat → Nat → Nat → Prop} {S : Nat} (h0 : ∀ n, ¬ Z 0 0 n) : zSpI Z S 1 zF9 := ⟨Nat.le_refl _, fun q => absurd q (Nat.lt_irrefl _), fun p c _ h2 h3 => by
  have e : p 0 = 0 := by omega
  have w := h2 0 (by decide)
  rw [e] at w
  exact absurd w (h0 _)⟩
theorem zSpI_k {Z : Nat → Nat → Nat → Prop} {S on l : Nat} (hS : S < 32) (hn : ¬ SB on S) (h : zSpI Z S on l) : zSpI Z S (on + 1) l := ⟨h.1, h.2.1, fun p c h1 h2 h3 => by
  rcases (show p 0 < on ∨ p 0 = on by omega) with q | q
  · exact h.2.2 p c h1 h2 q
  · have := (zTh_sb hS h1).2.2.2.1
    rw [q] at this
    exact absurd this hn⟩
theorem zSpI_g {Z : Nat → Nat → Nat → Prop} {S on l f : Nat} (hf : zLs zF9 (Z 0 on) f) (hl : l ≤ f) (h : zSpI Z S on l) : zSpI Z S (on + 1) l := ⟨h.1, h.2.1, fun p c h1 h2 h3 => by
  rcases (show p 0 < on ∨ p 0 = on by omega) with q | q
  · exact h.2.2 p c h1 h2 q
  · have w := h2 0 (by decide)
    rw [q] at w
    have := hf.2.2 _ w
    omega⟩
theorem zSpJ_0 {Z : Nat → Nat → Nat → Prop} {S on l : Nat} (h : zSpI Z S on l) : zSpJ Z S on 0 l := ⟨h.1, h.2.1, fun p c h1 h2 h3 => h.2.2 p c h1 h2 (by omega)⟩
theorem zSpJ_k {Z : Nat → Nat → Nat → Prop} {S on tw l : Nat} (hS : S < 32) (hn : ¬ SB tw (S - on)) (h : zSpJ Z S on tw l) : zSpJ Z S on (tw + 1) l := ⟨h.1, h.2.1, fun p c h1 h2 h3 => by
  rcases (show (p 0 < on ∨ (p 0 = on ∧ p 1 < tw)) ∨ (p 0 = on ∧ p 1 = tw) by omega) with q | ⟨q1, q2⟩
  · exact h.2.2 p c h1 h2 q
  · have := (zTh_sb hS h1).2.2.2.2.1
    rw [q1, q2] at this
    exact absurd this hn⟩
theorem zSpJ_s {Z : Nat → Nat → Nat → Prop} {S on tw l f x y : Nat} (hS : S < 32) (ho : SB on S) (ho2 : on < 32) (ht : SB tw (S - on)) (ht2 : tw < 32) (hf : zLs zF9 (Z 0 on) f) (hx : zLs zF9 (Z 1 tw) x) (hy : zLs zF9 (Z 2 (S - on - tw)) y) (h : zSpJ Z S on tw l) : zSpJ Z S on (tw + 1) (min l (f + (x + y))) := by
  have hl := h.1
  refine ⟨Nat.le_trans (Nat.min_le_left _ _) hl, fun q => ?_, fun p c h1 h2 h3 => ?_⟩
  · by_cases w : l ≤ f + (x + y)
    · rw [Nat.min_eq_left w] at q ⊢
      exact h.2.1 q
    · rw [Nat.min_eq_right (by omega)]
      refine ⟨p3 on tw (S - on - tw), p3 f x y, (zTh_mk hS ho ho2 ht ht2).1, fun i hi => ?_, by show f + (x + y) = f + x + y; omega⟩
      rcases (show i = 0 ∨ i = 1 ∨ i = 2 by omega) with e | e | e
      · subst e; exact hf.2.1 (by omega)
      · subst e; exact hx.2.1 (by omega)
      · subst e; exact hy.2.1 (by omega)
  · rcases (show (p 0 < on ∨ (p 0 = on ∧ p 1 < tw)) ∨ (p 0 = on ∧ p 1 = tw) by omega) with q | ⟨q1, q2⟩
    · exact Nat.le_trans (Nat.min_le_left _ _) (h.2.2 p c h1 h2 q)
    · refine Nat.le_trans (Nat.min_le_right _ _) ?_
      have q3 := (zTh_sb hS h1).2.2.2.2.2.1
      have w0 := h2 0 (by decide)
      have w1 := h2 1 (by decide)
      have w2 := h2 2 (by decide)
      rw [q3, q1, q2] at w2
      rw [q1] at w0
      rw [q2] at w1
      have := hf.2.2 _ w0
      have := hx.2.2 _ w1
      have := hy.2.2 _ w2
      omega
theorem zSpJ_e {Z : Nat → Nat → Nat → Prop} {S on tw l : Nat} (hS : S < 32) (ht : S - on < tw) (h : zSpJ Z S on tw l) : zSpI Z S (on + 1) l := ⟨h.1, h.2.1, fun p c h1 h2 h3 => by
  have q := (zTh_sb hS h1).2.2.2.2.2.2.1
  refine h.2.2 p c h1 h2 ?_
  rcases (show p 0 < on ∨ p 0 = on by omega) with w | w
  · exact Or.inl w
  · exact Or.inr ⟨w, by rw [w] at q; omega⟩⟩
theorem zSpI_e {Z : Nat → Nat → Nat → Prop} {S on l : Nat} (ho : S < on) (h : zSpI Z S on l) : zLs zF9 (zSp Z S) l := ⟨h.1, h.2.1, fun n q => by
  obtain ⟨p, c, h1, h2, h3⟩ := q
  have := h1.1
  have := h.2.2 p c h1 h2 (by omega)
  omega⟩
/-- the inner nodes in every way -/
def dky (d : Nat → Nat) (w k : Nat) : Nat := if k < w then d k else 0
def zByI (g : GG) (r : GR) (D : Nat → Nat → Nat → Nat → Nat → Prop) (j s t S i l : Nat) : Prop := l ≤ zF9 ∧ (l < zF9 → zBy g r D j s t S l) ∧ ∀ d n, d 0 = s → d 1 = t → zSd (yW r j) (zN g) d → dky d (yW r j) 2 < i → zSp (fun i => zSl g r D j i d) S n → l ≤ n
def zByJ (g : GG) (r : GR) (D : Nat → Nat → Nat → Nat → Nat → Prop) (j s t S i k l : Nat) : Prop := l ≤ zF9 ∧ (l < zF9 → zBy g r D j s t S l) ∧ ∀ d n, d 0 = s → d 1 = t → zSd (yW r j) (zN g) d → (dky d (yW r j) 2 < i ∨ (dky d (yW r j) 2 = i ∧ dky d (yW r j) 3 < k)) → zSp (fun i => zSl g r D j i d) S n → l ≤ n
theorem zByI_0 {g : GG} {r : GR} {D : Nat → Nat → Nat → Nat → Nat → Prop} {j s t S : Nat} : zByI g r D j s t S 0 zF9 := ⟨Nat.le_refl _, fun q => absurd q (Nat.lt_irrefl _), fun d n _ _ _ q => absurd q (Nat.not_lt_zero _)⟩
theorem zByJ_0 {g : GG} {r : GR} {D : Nat → Nat → Nat → Nat → Nat → Prop} {j s t S i l : Nat} (h : zByI g r D j s t S i l) : zByJ g r D j s t S i 0 l := ⟨h.1, h.2.1, fun d n h1 h2 h3 h4 h5 => h.2.2 d n h1 h2 h3 (by omega) h5⟩
theorem dky_lt {w v k x : Nat} {d : Nat → Nat} (hk : 2 ≤ k) (h : zSd w v d) (hx : (k < w ∧ x = v) ∨ (w ≤ k ∧ x = 1)) : dky d w k < x := by
  unfold dky
  rcases hx with ⟨h1, h2⟩ | ⟨h1, h2⟩
  · rw [if_pos h1, h2]
    exact (h k hk h1).1
  · rw [if_neg (by omega), h2]
    decide
theorem zByJ_e {g : GG} {r : GR} {D : Nat → Nat → Nat → Nat → Nat → Prop} {j s t S i k l x : Nat} (hx : (3 < yW r j ∧ x = zN g) ∨ (yW r j ≤ 3 ∧ x = 1)) (hk : k = x) (h : zByJ g r D j s t S i k l) : zByI g r D j s t S (i + 1) l := ⟨h.1, h.2.1, fun d n h1 h2 h3 h4 h5 => h.2.2 d n h1 h2 h3 (by
  have := dky_lt (k := 3) (by decide) h3 hx
  omega) h5⟩
theorem zByI_e {g : GG} {r : GR} {D : Nat → Nat → Nat → Nat → Nat → Prop} {j s t S i l x : Nat} (hx : (2 < yW r j ∧ x = zN g) ∨ (yW r j ≤ 2 ∧ x = 1)) (hi : i = x) (h : zByI g r D j s t S i l) : zLs zF9 (zBy g r D j s t S) l := ⟨h.1, h.2.1, fun n q => by
  obtain ⟨d, h1, h2, h3, h4⟩ := q
  exact h.2.2 d n h1 h2 h3 (by rw [hi]; exact dky_lt (k := 2) (by decide) h3 hx) h4⟩
/-- what standsApart asks -/
def sAp (w : Nat) (sd : Nat → Int32) : Prop := (nI w < 3 ∨ (¬ sd 2 = sd 0 ∧ ¬ sd 2 = sd 1)) ∧ (nI w < 4 ∨ (¬ sd 3 = sd 0 ∧ ¬ sd 3 = sd 1 ∧ ¬ sd 3 = sd 2))
theorem sAp_d {w v s t i k x y : Nat} {sd : Nat → Int32} (hw : w ≤ 4) (hw2 : 2 ≤ w) (hv : v ≤ 5) (hs : s < 5) (ht : t < 5) (e0 : sd 0 = nI s) (e1 : sd 1 = nI t) (e2 : sd 2 = nI i) (e3 : sd 3 = nI k) (hi : i < x) (hk : k < y) (hx : (2 < w ∧ x = v) ∨ (w ≤ 2 ∧ x = 1)) (hy : (3 < w ∧ y = v) ∨ (w ≤ 3 ∧ y = 1)) : sAp w sd ↔ zSd w v (fun k => tn (sd k)) := by
  unfold sAp
  rw [e0, e1, e2, e3, show (3 : Int32) = nI 3 from rfl, show (4 : Int32) = nI 4 from rfl, nI_ltI (by omega) (by decide), nI_ltI (by omega) (by decide), nI_eq (by omega) (by omega), nI_eq (by omega) (by omega), nI_eq (by omega) (by omega), nI_eq (by omega) (by omega), nI_eq (by omega) (by omega)]
  have t0 : tn (sd 0) = s := by rw [e0, tn_nI (by omega)]
  have t1 : tn (sd 1) = t := by rw [e1, tn_nI (by omega)]
  have t2 : tn (sd 2) = i := by rw [e2, tn_nI (by omega)]
  have t3 : tn (sd 3) = k := by rw [e3, tn_nI (by omega)]
  constructor
  · rintro ⟨h2, h3⟩ m hm1 hm2
    rcases (show m = 2 ∨ m = 3 by omega) with e | e
    · subst e
      show tn (sd 2) < v ∧ ∀ z, z < 2 → ¬ tn (sd 2) = tn (sd z)
      rw [t2]
      refine ⟨by omega, fun z hz => ?_⟩
      rcases (show z = 0 ∨ z = 1 by omega) with e | e <;> subst e
      · rw [t0]; omega
      · rw [t1]; omega
    · subst e
      show tn (sd 3) < v ∧ ∀ z, z < 3 → ¬ tn (sd 3) = tn (sd z)
      rw [t3]
      refine ⟨by omega, fun z hz => ?_⟩
      rcases (show z = 0 ∨ z = 1 ∨ z = 2 by omega) with e | e | e <;> subst e
      · rw [t0]; omega
      · rw [t1]; omega
      · rw [t2]; omega
  · intro h
    constructor
    · by_cases q : w < 3
      · exact Or.inl q
      · have h2 := (h 2 (by decide) (by omega)).2
        have a0 : ¬ tn (sd 2) = tn (sd 0) := h2 0 (by decide)
        have a1 : ¬ tn (sd 2) = tn (sd 1) := h2 1 (by decide)
        rw [t2, t0] at a0
        rw [t2, t1] at a1
        exact Or.inr ⟨a0, a1⟩
    · by_cases q : w < 4
      · exact Or.inl q
      · have h3 := (h 3 (by decide) (by omega)).2
        have a0 : ¬ tn (sd 3) = tn (sd 0) := h3 0 (by decide)
        have a1 : ¬ tn (sd 3) = tn (sd 1) := h3 1 (by decide)
        have a2 : ¬ tn (sd 3) = tn (sd 2) := h3 2 (by decide)
        rw [t3, t0] at a0
        rw [t3, t1] at a1
        rw [t3, t2] at a2
        exact Or.inr ⟨a0, a1, a2⟩
/-- nodes d of which the stand at hand is the picture -/
theorem dky_eq {w s t i k : Nat} {sd : Nat → Int32} {d : Nat → Nat} (hw : w ≤ 4) (t0 : tn (sd 0) = s) (t1 : tn (sd 1) = t) (t2 : tn (sd 2) = i) (t3 : tn (sd 3) = k) (h0 : d 0 = s) (h1 : d 1 = t) (h2 : dky d w 2 = i) (h3 : dky d w 3 = k) : ∀ m, m < w → tn (sd m) = d m := fun m hm => by
  unfold dky at h2 h3
  rcases (show m = 0 ∨ m = 1 ∨ m = 2 ∨ m = 3 by omega) with e | e | e | e <;> subst e
  · rw [t0, h0]
  · rw [t1, h1]
  · rw [if_pos hm] at h2; rw [t2, h2]
  · rw [if_pos hm] at h3; rw [t3, h3]
theorem zSp_d {g : GG} {r : GR} {D : Nat → Nat → Nat → Nat → Nat → Prop} {j S n : Nat} {d d2 : Nat → Nat} (hw : ∀ i, i < yS r j → yF r j i < yW r j ∧ yT r j i < yW r j) (hd : ∀ k, k < yW r j → d k = d2 k) (h : zSp (fun i => zSl g r D j i d) S n) : zSp (fun i => zSl g r D j i d2) S n := by
  obtain ⟨p, c, h1, h2, h3⟩ := h
  exact ⟨p, c, h1, fun i hi => zSl_d (hw i) hd (h2 i hi), h3⟩
theorem zSd_d {w v : Nat} {d d2 : Nat → Nat} (hd : ∀ k, k < w → d k = d2 k) (h : zSd w v d) : zSd w v d2 := fun k h1 h2 => by
  obtain ⟨a, b⟩ := h k h1 h2
  rw [← hd k h2]
  exact ⟨a, fun i hi => by rw [← hd i (by omega)]; exact b i hi⟩
theorem zByJ_y {g : GG} {r : GR} {D : Nat → Nat → Nat → Nat → Nat → Prop} {j s t S i k l q : Nat} {sd : Nat → Int32} (hw4 : yW r j ≤ 4) (hw : ∀ i, i < yS r j → yF r j i < yW r j ∧ yT r j i < yW r j) (t0 : tn (sd 0) = s) (t1 : tn (sd 1) = t) (t2 : tn (sd 2) = i) (t3 : tn (sd 3) = k) (hA : zSd (yW r j) (zN g) (fun k => tn (sd k))) (hq : zLs zF9 (zSp (fun i => zSl g r D j i (fun k => tn (sd k))) S) q) (h : zByJ g r D j s t S i k l) : zByJ g r D j s t S i (k + 1) (min l q) := by
  refine ⟨Nat.le_trans (Nat.min_le_left _ _) h.1, fun w => ?_, fun d n h1 h2 h3 h4 h5 => ?_⟩
  · by_cases z : l ≤ q
    · rw [Nat.min_eq_left z] at w ⊢
      exact h.2.1 w
    · rw [Nat.min_eq_right (by omega)] at w ⊢
      exact ⟨_, t0, t1, hA, hq.2.1 w⟩
  · rcases (show (dky d (yW r j) 2 < i ∨ (dky d (yW r j) 2 = i ∧ dky d (yW r j) 3 < k)) ∨ (dky d (yW r j) 2 = i ∧ dky d (yW r j) 3 = k) by omega) with z | ⟨z1, z2⟩
    · exact Nat.le_trans (Nat.min_le_left _ _) (h.2.2 d n h1 h2 h3 z h5)
    · refine Nat.le_trans (Nat.min_le_right _ _) (hq.2.2 n (zSp_d hw (fun m hm => ?_) h5))
      exact (dky_eq hw4 t0 t1 t2 t3 h1 h2 z1 z2 m hm).symm
theorem zByJ_n {g : GG} {r : GR} {D : Nat → Nat → Nat → Nat → Nat → Prop} {j s t S i k l : Nat} {sd : Nat → Int32} (hw4 : yW r j ≤ 4) (t0 : tn (sd 0) = s) (t1 : tn (sd 1) = t) (t2 : tn (sd 2) = i) (t3 : tn (sd 3) = k) (hA : ¬ zSd (yW r j) (zN g) (fun k => tn (sd k))) (h : zByJ g r D j s t S i k l) : zByJ g r D j s t S i (k + 1) l := by
  refine ⟨h.1, h.2.1, fun d n h1 h2 h3 h4 h5 => ?_⟩
  rcases (show (dky d (yW r j) 2 < i ∨ (dky d (yW r j) 2 = i ∧ dky d (yW r j) 3 < k)) ∨ (dky d (yW r j) 2 = i ∧ dky d (yW r j) 3 = k) by omega) with z | ⟨z1, z2⟩
  · exact h.2.2 d n h1 h2 h3 z h5
  · exact absurd (zSd_d (fun m hm => (dky_eq hw4 t0 t1 t2 t3 h1 h2 z1 z2 m hm).symm) h3) hA
/-- what the table says is so -/
def zSo (g : GG) (r : GR) (T : Nat → Nat → Nat → Nat → Nat) : Prop := ∀ a S s t, a < 3 → S < 32 → s < 5 → t < 5 → T a S s t < zF9 → ∃ k, zC g r k a S s t (T a S s t)
/-- one call of improve, as far as it is -/
def IMI (g : GG) (r : GR) (f0 f : Nat → Int32) (b m so ta i : Nat) : Prop := TBI f ∧ (∀ k, tn (f k) ≤ tn (f0 k)) ∧ (∀ a S s t, a < 3 → S < 32 → s < 5 → t < 5 → ¬ S = b → tbl f a S s t = tbl f0 a S s t) ∧ zSo g r (tbl f) ∧ ∀ j d p c a s t n, zP g b s t → yS r j ≤ m → zAp g r (TD zF9 (tbl f0)) j d p c a b s t n → (s < so ∨ (s = so ∧ (t < ta ∨ (t = ta ∧ j < i)))) → tbl f a b s t ≤ n
theorem IMI_0 {g : GG} {r : GR} {f : Nat → Int32} {b m : Nat} (h1 : TBI f) (h2 : zSo g r (tbl f)) : IMI g r f f b m 0 0 0 := ⟨h1, fun _ => Nat.le_refl _, fun _ _ _ _ _ _ _ _ _ => rfl, h2, fun j d p c a s t n _ _ _ q => by omega⟩
theorem zC_3 {g : GG} {r : GR} {D : Nat → Nat → Nat → Nat → Nat → Prop} {j S : Nat} {d p c : Nat → Nat} {a s t n : Nat} (hP : zP g S s t) (h : zAp g r D j d p c a S s t n) (hD : ∀ i a s t m, i < 3 → D a (p i) s t m → ∃ k, zC g r k a (p i) s t m) : ∃ k, zC g r k a S s t n := by
  have hs : ∀ i, i < 3 → ∃ k, zSl g r (zC g r k) j i d (p i) (c i) := fun i hi => by
    rcases h.2.2.2.2.2.2.1 i hi with w | ⟨w1, w2, ⟨w3, w4⟩ | w3⟩
    · exact ⟨0, Or.inl w⟩
    · obtain ⟨k, hk⟩ := hD i _ _ _ _ hi w4
      exact ⟨k, Or.inr ⟨w1, w2, Or.inl ⟨w3, hk⟩⟩⟩
    · exact ⟨0, Or.inr ⟨w1, w2, Or.inr w3⟩⟩
  obtain ⟨k0, e0⟩ := hs 0 (by decide)
  obtain ⟨k1, e1⟩ := hs 1 (by decide)
  obtain ⟨k2, e2⟩ := hs 2 (by decide)
  refine ⟨k0 + k1 + k2 + 1, hP, j, d, p, c, h.1, h.2.1, h.2.2.1, h.2.2.2.1, h.2.2.2.2.1, h.2.2.2.2.2.1, fun i hi => ?_, h.2.2.2.2.2.2.2⟩
  rcases (show i = 0 ∨ i = 1 ∨ i = 2 by omega) with e | e | e
  · subst e
    exact zSl_mono (fun _ _ _ _ _ q => by rw [show k0 + k1 + k2 = k0 + (k1 + k2) by omega]; exact zC_m q _) e0
  · subst e
    exact zSl_mono (fun _ _ _ _ _ q => by rw [show k0 + k1 + k2 = k1 + (k0 + k2) by omega]; exact zC_m q _) e1
  · subst e
    exact zSl_mono (fun _ _ _ _ _ q => by rw [show k0 + k1 + k2 = k2 + (k0 + k1) by omega]; exact zC_m q _) e2
/-- a smaller table, smaller costs -/
theorem zAp_le {g : GG} {r : GR} {D D2 : Nat → Nat → Nat → Nat → Nat → Prop} {j S : Nat} {d p c : Nat → Nat} {a s t n : Nat} (h : zAp g r D j d p c a S s t n) (hD : ∀ i a s t m, i < 3 → a < 3 → D a (p i) s t m → ∃ m2, m2 ≤ m ∧ D2 a (p i) s t m2) : ∃ c2 n2, n2 ≤ n ∧ zAp g r D2 j d p c2 a S s t n2 := by
  have hs : ∀ i, i < 3 → ∃ n2, n2 ≤ c i ∧ zSl g r D2 j i d (p i) n2 := fun i hi => zSl_le (fun a s t m ha q => hD i a s t m hi ha q) (h.2.2.2.2.2.2.1 i hi)
  obtain ⟨n0, a0, b0⟩ := hs 0 (by decide)
  obtain ⟨n1, a1, b1⟩ := hs 1 (by decide)
  obtain ⟨n2, a2, b2⟩ := hs 2 (by decide)
  refine ⟨p3 n0 n1 n2, 1 + n0 + n1 + n2, by have := h.2.2.2.2.2.2.2; omega, h.1, h.2.1, h.2.2.1, h.2.2.2.1, h.2.2.2.2.1, h.2.2.2.2.2.1, fun i hi => ?_, rfl⟩
  rcases (show i = 0 ∨ i = 1 ∨ i = 2 by omega) with e | e | e <;> subst e
  · exact b0
  · exact b1
  · exact b2
theorem TD_le {f f0 : Nat → Int32} (h : ∀ k, tn (f k) ≤ tn (f0 k)) {a p s t m : Nat} (q : TD zF9 (tbl f0) a p s t m) : ∃ m2, m2 ≤ m ∧ TD zF9 (tbl f) a p s t m2 := by
  obtain ⟨q0, q1, q2⟩ := q
  have w : tbl f a p s t ≤ tbl f0 a p s t := h _
  exact ⟨tbl f a p s t, by omega, q0, rfl, by omega⟩
theorem IMI_n {g : GG} {r : GR} {f0 f : Nat → Int32} {b m so ta i q : Nat} (hq : zLs zF9 (zBy g r (TD zF9 (tbl f)) i so ta b) q) (c : tbl f (yO r i) b so ta ≤ 1 + q) (h : IMI g r f0 f b m so ta i) : IMI g r f0 f b m so ta (i + 1) := by
  obtain ⟨h1, h2, h3, h4, h5⟩ := h
  refine ⟨h1, h2, h3, h4, fun j d p c' a s t n w1 w2 w3 w4 => ?_⟩
  rcases (show (s < so ∨ (s = so ∧ (t < ta ∨ (t = ta ∧ j < i)))) ∨ (s = so ∧ t = ta ∧ j = i) by omega) with z | ⟨z1, z2, z3⟩
  · exact h5 j d p c' a s t n w1 w2 w3 z
  · subst z1 z2 z3
    obtain ⟨c2, n2, e1, e2⟩ := zAp_le w3 (fun i a s t m _ _ q => TD_le h2 q)
    obtain ⟨e3, e4⟩ := zAp_by e2
    have := hq.2.2 _ e3
    rw [← w3.2.1]
    omega
theorem tb_ix {a S s t a2 S2 s2 t2 : Nat} (h1 : s < 5) (h2 : t < 5) (h3 : s2 < 5) (h4 : t2 < 5) (hS : S < 32) (hS2 : S2 < 32) (e : (((((a * 32) + S) * 5) + s) * 5) + t = (((((a2 * 32) + S2) * 5) + s2) * 5) + t2) : a = a2 ∧ S = S2 ∧ s = s2 ∧ t = t2 := by omega
theorem IMI_y {g : GG} {r : GR} {f0 f : Nat → Int32} {b m so ta i q : Nat} (hi : i < yM r) (ho : yO r i < 3) (hb : b < 32) (hso : so < 5) (hta : ta < 5) (hP : zP g b so ta) (hq : zLs zF9 (zBy g r (TD zF9 (tbl f)) i so ta b) q) (c : 1 + q < tbl f (yO r i) b so ta) (h : IMI g r f0 f b m so ta i) : IMI g r f0 (upd f ((((((yO r i * 32) + b) * 5) + so) * 5) + ta) (nI (1 + q))) b m so ta (i + 1) := by
  obtain ⟨h1, h2, h3, h4, h5⟩ := h
  have hF : tbl f (yO r i) b so ta ≤ zF9 := (TBI_at h1 (by omega)).2
  have hF9 : zF9 = 536870912 := rfl
  have hfall : ∀ k, tn (upd f ((((((yO r i * 32) + b) * 5) + so) * 5) + ta) (nI (1 + q)) k) ≤ tn (f k) := fun k => by
    by_cases e : k = (((((yO r i * 32) + b) * 5) + so) * 5) + ta
    · subst e
      rw [pk_us, tn_nI (by omega)]
      exact Nat.le_of_lt c
    · rw [pk_un e]
      exact Nat.le_refl _
  have hkeep : ∀ a S s t, S < 32 → s < 5 → t < 5 → ¬ (a = yO r i ∧ S = b ∧ s = so ∧ t = ta) → tbl (upd f ((((((yO r i * 32) + b) * 5) + so) * 5) + ta) (nI (1 + q))) a S s t = tbl f a S s t := fun a S s t w1 w2 w3 w4 => by
    unfold tbl
    rw [pk_un (fun e => w4 (tb_ix w2 w3 hso hta w1 hb e))]
  have hnew : tbl (upd f ((((((yO r i * 32) + b) * 5) + so) * 5) + ta) (nI (1 + q))) (yO r i) b so ta = 1 + q := by
    unfold tbl
    rw [pk_us, tn_nI (by omega)]
  refine ⟨fun k hk => ?_, fun k => Nat.le_trans (hfall k) (h2 k), fun a S s t w1 w2 w3 w4 w5 => ?_, fun a S s t w1 w2 w3 w4 w5 => ?_, fun j d p c' a s t n w1 w2 w3 w4 => ?_⟩
  · by_cases e : k = (((((yO r i * 32) + b) * 5) + so) * 5) + ta
    · subst e
      exact ⟨1 + q, by omega, pk_us⟩
    · rw [pk_un e]
      exact h1 k hk
  · rw [hkeep a S s t w2 w3 w4 (fun e => w5 e.2.1)]
    exact h3 a S s t w1 w2 w3 w4 w5
  · by_cases e : a = yO r i ∧ S = b ∧ s = so ∧ t = ta
    · obtain ⟨e1, e2, e3, e4⟩ := e
      subst e1 e2 e3 e4
      rw [hnew]
      obtain ⟨d, p, c', e5⟩ := zBy_ap hi (hq.2.1 (by omega))
      refine zC_3 hP e5 (fun i2 a2 s2 t2 m2 hi2 w => ?_)
      obtain ⟨⟨w6, w7, w8, w9⟩, w10, w11⟩ := w
      rw [w10] at w11 ⊢
      exact h4 a2 (p i2) s2 t2 w6 w7 w8 w9 w11
    · rw [hkeep a S s t w2 w3 w4 e] at w5 ⊢
      exact h4 a S s t w1 w2 w3 w4 w5
  · have hle : tbl (upd f ((((((yO r i * 32) + b) * 5) + so) * 5) + ta) (nI (1 + q))) a b s t ≤ tbl f a b s t := hfall _
    rcases (show (s < so ∨ (s = so ∧ (t < ta ∨ (t = ta ∧ j < i)))) ∨ (s = so ∧ t = ta ∧ j = i) by omega) with z | ⟨z1, z2, z3⟩
    · exact Nat.le_trans hle (h5 j d p c' a s t n w1 w2 w3 z)
    · subst z1 z2 z3
      obtain ⟨c2, n2, e1, e2⟩ := zAp_le w3 (fun i a s t m _ _ q => TD_le h2 q)
      obtain ⟨e3, e4⟩ := zAp_by e2
      have := hq.2.2 _ e3
      rw [← w3.2.1, hnew]
      omega
theorem IMI_k {g : GG} {r : GR} {f0 f : Nat → Int32} {b m so ta i : Nat} (c : ¬ yS r i ≤ m) (h : IMI g r f0 f b m so ta i) : IMI g r f0 f b m so ta (i + 1) := by
  obtain ⟨h1, h2, h3, h4, h5⟩ := h
  refine ⟨h1, h2, h3, h4, fun j d p c' a s t n w1 w2 w3 w4 => ?_⟩
  rcases (show (s < so ∨ (s = so ∧ (t < ta ∨ (t = ta ∧ j < i)))) ∨ (s = so ∧ t = ta ∧ j = i) by omega) with z | ⟨z1, z2, z3⟩
  · exact h5 j d p c' a s t n w1 w2 w3 z
  · subst z3
    exact absurd w2 c
theorem IMI_t {g : GG} {r : GR} {f0 f : Nat → Int32} {b m so ta i : Nat} (hi : yM r ≤ i) (h : IMI g r f0 f b m so ta i) : IMI g r f0 f b m so (ta + 1) 0 := by
  obtain ⟨h1, h2, h3, h4, h5⟩ := h
  refine ⟨h1, h2, h3, h4, fun j d p c' a s t n w1 w2 w3 w4 => h5 j d p c' a s t n w1 w2 w3 ?_⟩
  have := w3.1
  omega
theorem IMI_u {g : GG} {r : GR} {f0 f : Nat → Int32} {b m so ta : Nat} (hP : ¬ zP g b so ta) (h : IMI g r f0 f b m so ta 0) : IMI g r f0 f b m so (ta + 1) 0 := by
  obtain ⟨h1, h2, h3, h4, h5⟩ := h
  refine ⟨h1, h2, h3, h4, fun j d p c' a s t n w1 w2 w3 w4 => ?_⟩
  rcases (show (s < so ∨ (s = so ∧ (t < ta ∨ (t = ta ∧ j < 0)))) ∨ (s = so ∧ t = ta) by omega) with z | ⟨z1, z2⟩
  · exact h5 j d p c' a s t n w1 w2 w3 z
  · subst z1 z2
    exact absurd w1 hP
theorem IMI_s {n9 v : Nat} {g1 g2 g3 : Nat → Int32} {r : GR} {f0 f : Nat → Int32} {b m so ta : Nat} (hG : GI n9 v g1 g2 g3) (hv : v ≤ 5) (ht : v ≤ ta) (h : IMI (gC n9 v g1 g2 g3) r f0 f b m so ta 0) : IMI (gC n9 v g1 g2 g3) r f0 f b m (so + 1) 0 0 := by
  obtain ⟨h1, h2, h3, h4, h5⟩ := h
  refine ⟨h1, h2, h3, h4, fun j d p c' a s t n w1 w2 w3 w4 => h5 j d p c' a s t n w1 w2 w3 ?_⟩
  have := zNd_v hG hv w1.2.2.1
  omega
/-- what a whole call of improve leaves -/
def IME (g : GG) (r : GR) (f0 f : Nat → Int32) (b m : Nat) : Prop := TBI f ∧ (∀ k, tn (f k) ≤ tn (f0 k)) ∧ (∀ a S s t, a < 3 → S < 32 → s < 5 → t < 5 → ¬ S = b → tbl f a S s t = tbl f0 a S s t) ∧ zSo g r (tbl f) ∧ ∀ j d p c a s t n, zP g b s t → yS r j ≤ m → zAp g r (TD zF9 (tbl f0)) j d p c a b s t n → tbl f a b s t ≤ n
theorem IMI_e {n9 v : Nat} {g1 g2 g3 : Nat → Int32} {r : GR} {f0 f : Nat → Int32} {b m so : Nat} (hG : GI n9 v g1 g2 g3) (hv : v ≤ 5) (ht : v ≤ so) (h : IMI (gC n9 v g1 g2 g3) r f0 f b m so 0 0) : IME (gC n9 v g1 g2 g3) r f0 f b m := by
  obtain ⟨h1, h2, h3, h4, h5⟩ := h
  refine ⟨h1, h2, h3, h4, fun j d p c' a s t n w1 w2 w3 => h5 j d p c' a s t n w1 w2 w3 ?_⟩
  have := zNd_v hG hv w1.2.1
  omega
theorem IME_1 {n9 v : Nat} {g1 g2 g3 : Nat → Int32} {r : GR} {f0 f : Nat → Int32} {b m : Nat} (hG : GI n9 v g1 g2 g3) (hv : v ≤ 5) (hW : yWF r) (hb : b < 32) (hm : 1 ≤ m) (h : IME (gC n9 v g1 g2 g3) r f0 f b m) : zS1 (gC n9 v g1 g2 g3) r (tbl f0) (tbl f) b := by
  obtain ⟨h1, h2, h3, h4, h5⟩ := h
  refine ⟨fun a s t => h2 _, fun j a a2 u w s t q1 q2 => ?_⟩
  have hs := zNd_v hG hv q2.2.1
  have ht := zNd_v hG hv q2.2.2.1
  have huw : u < 5 ∧ w < 5 := by rcases q1.2.2.2.2.2 with ⟨-, -, e1, e2⟩ | ⟨-, -, e1, e2⟩ <;> omega
  have ha : a < 3 := by rw [← q1.2.2.1]; exact (hW j q1.1).1
  by_cases z : tbl f0 a2 b u w < zF9
  · exact h5 j _ _ _ a s t _ q2 (by rw [q1.2.1]; exact hm) (zSg_ap (D := TD zF9 (tbl f0)) hW q1 (zNd_ne q2.2.1) ⟨⟨q1.2.2.2.2.1, hb, huw.1, huw.2⟩, rfl, z⟩)
  · have : tbl f a b s t ≤ zF9 := (TBI_at h1 (by omega)).2
    omega
theorem IME_B {n9 v : Nat} {g1 g2 g3 : Nat → Int32} {r : GR} {f0 f : Nat → Int32} {b : Nat} (hG : GI n9 v g1 g2 g3) (hv : v ≤ 5) (hW : yWF r) (hb : b < 32) (hE : ∀ S, S < b → ∀ a s t, a < 3 → zEx (gC n9 v g1 g2 g3) r (tbl f0) a S s t) (h : IME (gC n9 v g1 g2 g3) r f0 f b (zpc b)) : zBt (gC n9 v g1 g2 g3) r (tbl f) b := by
  obtain ⟨h1, h2, h3, h4, h5⟩ := h
  intro k a s t n q
  obtain ⟨hP, j, d, p, c, q⟩ := q
  have hj := hW j q.1
  have hs := zNd_v hG hv hP.2.1
  have ht := zNd_v hG hv hP.2.2.1
  have ha : a < 3 := by rw [← q.2.1]; exact hj.1
  have hT : tbl f a b s t ≤ zF9 := (TBI_at h1 (by omega)).2
  have hsl : ∀ i, i < 3 → (∃ n2, n2 ≤ c i ∧ zSl (gC n9 v g1 g2 g3) r (TD zF9 (tbl f0)) j i d (p i) n2) ∨ zF9 ≤ c i := fun i hi => by
    rcases q.2.2.2.2.2.2.1 i hi with w | ⟨w1, w2, ⟨w3, w4, w5⟩ | w3⟩
    · exact Or.inl ⟨c i, Nat.le_refl _, Or.inl w⟩
    · have e := hE (p i) w4 _ _ _ w3 _ _ w5
      have eP := zC_P w5
      have e1 := zNd_v hG hv eP.2.1
      have e2 := zNd_v hG hv eP.2.2.1
      by_cases z : tbl f0 (yL r j i) (p i) (d (yF r j i)) (d (yT r j i)) < zF9
      · exact Or.inl ⟨_, e, Or.inr ⟨w1, w2, Or.inl ⟨w3, ⟨w3, by omega, by omega, by omega⟩, rfl, z⟩⟩⟩
      · exact Or.inr (by omega)
    · exact Or.inl ⟨c i, Nat.le_refl _, Or.inr ⟨w1, w2, Or.inr w3⟩⟩
  have hn := q.2.2.2.2.2.2.2
  rcases hsl 0 (by decide) with ⟨n0, a0, b0⟩ | z
  · rcases hsl 1 (by decide) with ⟨n1, a1, b1⟩ | z
    · rcases hsl 2 (by decide) with ⟨n2, a2, b2⟩ | z
      · have hA : zAp (gC n9 v g1 g2 g3) r (TD zF9 (tbl f0)) j d p (p3 n0 n1 n2) a b s t (1 + n0 + n1 + n2) := ⟨q.1, q.2.1, q.2.2.1, q.2.2.2.1, q.2.2.2.2.1, q.2.2.2.2.2.1, fun i hi => by
          rcases (show i = 0 ∨ i = 1 ∨ i = 2 by omega) with e | e | e <;> subst e
          · exact b0
          · exact b1
          · exact b2, rfl⟩
        have hpc := zpc_th hb q.2.2.2.2.2.1
        obtain ⟨t1, t2, t3, -⟩ := zTh_sb hb q.2.2.2.2.2.1
        have hne : ∀ i, i < 3 → i < yS r j → 1 ≤ zpc (p i) := fun i hi w => by
          rcases q.2.2.2.2.2.2.1 i hi with ⟨z, -⟩ | ⟨-, z, -⟩
          · omega
          · exact zpc_pos (by rcases (show i = 0 ∨ i = 1 ∨ i = 2 by omega) with e | e | e <;> subst e <;> assumption) z
        have hsz : yS r j ≤ zpc b := by
          have := hj.2.2.1
          have := hj.2.1
          have z0 := hne 0 (by decide) (by omega)
          by_cases y1 : 1 < yS r j
          · have z1 := hne 1 (by decide) y1
            by_cases y2 : 2 < yS r j
            · have z2 := hne 2 (by decide) y2
              omega
            · omega
          · omega
        have := h5 j d p _ a s t _ hP hsz hA
        omega
      · omega
    · omega
  · omega
/-- the sets below se are right -/
def FNI (g : GG) (r : GR) (f : Nat → Int32) (se : Nat) : Prop := TBI f ∧ zSo g r (tbl f) ∧ ∀ S, S < se → ∀ a s t, a < 3 → zEx g r (tbl f) a S s t
theorem tbl_far {a S s t : Nat} : tbl (fun _ => 536870912) a S s t = zF9 := tn_nI (n := 536870912) (by decide)
theorem zEx_0 {g : GG} {r : GR} {T : Nat → Nat → Nat → Nat → Nat} {a s t : Nat} : zEx g r T a 0 s t := fun k n h => absurd (zC_P h).2.1 (fun q => zNd_0 q)
theorem FNI_1 {g : GG} {r : GR} : FNI g r (fun _ => 536870912) 1 := ⟨fun k _ => ⟨536870912, Nat.le_refl _, rfl⟩, fun a S s t _ _ _ _ q => by rw [tbl_far] at q; exact absurd q (Nat.lt_irrefl _), fun S hS a s t _ => by
  have e : S = 0 := by omega
  subst e
  exact zEx_0⟩
theorem IME_E {n9 v : Nat} {g1 g2 g3 : Nat → Int32} {r : GR} {f0 f : Nat → Int32} {b m : Nat} (hG : GI n9 v g1 g2 g3) (hv : v ≤ 5) (hb : b < 32) (h : IME (gC n9 v g1 g2 g3) r f0 f b m) (hE : ∀ S, S < b → ∀ a s t, a < 3 → zEx (gC n9 v g1 g2 g3) r (tbl f0) a S s t) : ∀ S, S < b → ∀ a s t, a < 3 → zEx (gC n9 v g1 g2 g3) r (tbl f) a S s t := fun S hS a s t ha k n q => by
  have hP := zC_P q
  have hs := zNd_v hG hv hP.2.1
  have ht := zNd_v hG hv hP.2.2.1
  rw [h.2.2.1 a S s t ha (by omega) (by omega) (by omega) (by omega)]
  exact hE S hS a s t ha k n q
/-- rd rounds over a set -/
def FRD (g : GG) (r : GR) (f : Nat → Int32) (b rd : Nat) (bt : Int32) : Prop := FNI g r f b ∧ zBt g r (tbl f) b ∧ zQ g r (tbl f) b rd ∧ (bt = 0 → zS1 g r (tbl f) (tbl f) b)
theorem FRD_1 {n9 v : Nat} {g1 g2 g3 : Nat → Int32} {r : GR} {f0 f : Nat → Int32} {b : Nat} {bt : Int32} (hG : GI n9 v g1 g2 g3) (hv : v ≤ 5) (hW : yWF r) (hb : b < 32) (hb1 : 1 ≤ b) (h0 : FNI (gC n9 v g1 g2 g3) r f0 b) (h : IME (gC n9 v g1 g2 g3) r f0 f b (zpc b)) (hbt : bt = 0 → f = f0) : FRD (gC n9 v g1 g2 g3) r f b 1 bt := by
  have hpc := zpc_pos hb (by omega)
  have hB := IME_B hG hv hW hb h0.2.2 h
  have h1 := IME_1 hG hv hW hb hpc h
  refine ⟨⟨h.1, h.2.2.2.1, IME_E hG hv hb h h0.2.2⟩, hB, zQ_s hW hB h1 (by decide) zQ_0, fun c => ?_⟩
  have e := hbt c
  rw [← e] at h1
  exact h1
theorem FRD_s {n9 v : Nat} {g1 g2 g3 : Nat → Int32} {r : GR} {f0 f : Nat → Int32} {b rd : Nat} {bt bu : Int32} (hG : GI n9 v g1 g2 g3) (hv : v ≤ 5) (hW : yWF r) (hb : b < 32) (hrd : rd < 6) (h0 : FRD (gC n9 v g1 g2 g3) r f0 b rd bu) (h : IME (gC n9 v g1 g2 g3) r f0 f b 1) (hbt : bt = 0 → f = f0) : FRD (gC n9 v g1 g2 g3) r f b (rd + 1) bt := by
  have h1 := IME_1 hG hv hW hb (Nat.le_refl 1) h
  have hB : zBt (gC n9 v g1 g2 g3) r (tbl f) b := fun k a s t n q => Nat.le_trans (h.2.1 _) (h0.2.1 k a s t n q)
  refine ⟨⟨h.1, h.2.2.2.1, IME_E hG hv hb h h0.1.2.2⟩, hB, zQ_s hW hB h1 hrd h0.2.2.1, fun c => ?_⟩
  have e := hbt c
  rw [← e] at h1
  exact h1
theorem FRD_0 {g : GG} {r : GR} {f : Nat → Int32} {b rd : Nat} {bt : Int32} (hW : yWF r) (h : FRD g r f b rd bt) (c : bt = 0) : FNI g r f (b + 1) := ⟨h.1.1, h.1.2.1, fun S hS a s t ha => by
  rcases (show S < b ∨ S = b by omega) with q | q
  · exact h.1.2.2 S q a s t ha
  · subst q
    exact zQ_st hW h.2.1 (h.2.2.2 c) ha⟩
theorem FRD_6 {g : GG} {r : GR} {f : Nat → Int32} {b rd : Nat} {bt : Int32} (hr : rd = 6) (h : FRD g r f b rd bt) : FNI g r f (b + 1) := ⟨h.1.1, h.1.2.1, fun S hS a s t ha => by
  rcases (show S < b ∨ S = b by omega) with q | q
  · exact h.1.2.2 S q a s t ha
  · subst q
    subst hr
    exact zQ_6 h.2.2.1 ha⟩
/-- the book's rules, as numbers -/
def rC (ρ : Nat → RT) (r : Nat) : GR := (r, fun j => tn (ρ j).2.1.1, fun j => tn (ρ j).2.1.2.1, fun j => tn (ρ j).2.1.2.2, fun j i => tn ((ρ j).2.2.1 i), fun j i => tn ((ρ j).2.2.2.1 i), fun j i => tn ((ρ j).2.2.2.2.1 i))
/-- a rule as it is read -/
def RQ (t : RT) : Prop := ∃ o e w, o < 3 ∧ 1 ≤ e ∧ e ≤ 3 ∧ 2 ≤ w ∧ w ≤ 4 ∧ t.2.1.1 = nI o ∧ t.2.1.2.1 = nI e ∧ t.2.1.2.2 = nI w ∧ (∀ i, i < e → ∃ q a b, q < 5 ∧ a < w ∧ b < w ∧ t.2.2.1 i = nI q ∧ t.2.2.2.1 i = nI a ∧ t.2.2.2.2.1 i = nI b) ∧ (∀ i, i < 3 → t.2.2.2.2.2.1 i = if i < e then t.2.2.1 i else 5) ∧ (∃ i, i < e ∧ (t.2.2.2.1 i = 0 ∨ t.2.2.2.2.1 i = 0)) ∧ (∃ i, i < e ∧ (t.2.2.2.1 i = 1 ∨ t.2.2.2.2.1 i = 1)) ∧ (e = 1 → w = 2)
def RRQ (ρ : Nat → RT) (r : Nat) : Prop := ∀ j, j < r → RQ (ρ j)
theorem rC_wf {ρ : Nat → RT} {r : Nat} (h : RRQ ρ r) : yWF (rC ρ r) := fun j hj => by
  obtain ⟨o, e, w, a1, a2, a3, a4, a5, e1, e2, e3, b1, b2, ⟨i0, i1, i2⟩, ⟨l0, l1, l2⟩, b5⟩ := h j hj
  have E1 : yO (rC ρ r) j = o := by show tn (ρ j).2.1.1 = o; rw [e1, tn_nI (by omega)]
  have E2 : yS (rC ρ r) j = e := by show tn (ρ j).2.1.2.1 = e; rw [e2, tn_nI (by omega)]
  have E3 : yW (rC ρ r) j = w := by show tn (ρ j).2.1.2.2 = w; rw [e3, tn_nI (by omega)]
  rw [E1, E2, E3]
  refine ⟨a1, a2, a3, fun i hi => ?_, ⟨i0, i1, ?_⟩, ⟨l0, l1, ?_⟩, b5⟩
  · obtain ⟨q, a, b, c1, c2, c3, d1, d2, d3⟩ := b1 i hi
    have D1 : yL (rC ρ r) j i = q := by show tn ((ρ j).2.2.1 i) = q; rw [d1, tn_nI (by omega)]
    have D2 : yF (rC ρ r) j i = a := by show tn ((ρ j).2.2.2.1 i) = a; rw [d2, tn_nI (by omega)]
    have D3 : yT (rC ρ r) j i = b := by show tn ((ρ j).2.2.2.2.1 i) = b; rw [d3, tn_nI (by omega)]
    rw [D1, D2, D3]
    exact ⟨c1, c2, c3⟩
  · show tn ((ρ j).2.2.2.1 i0) = 0 ∨ tn ((ρ j).2.2.2.2.1 i0) = 0
    rcases i2 with q | q
    · left; rw [q]; decide
    · right; rw [q]; decide
  · show tn ((ρ j).2.2.2.1 l0) = 1 ∨ tn ((ρ j).2.2.2.2.1 l0) = 1
    rcases l2 with q | q
    · left; rw [q]; decide
    · right; rw [q]; decide
theorem rC_rj {ρ : Nat → RT} {r j : Nat} (h : RRQ ρ r) (hj : j < r) : RJ (rC ρ r) j (ρ j).2.1.2.1 (ρ j).2.1.2.2 (ρ j).2.2.2.1 (ρ j).2.2.2.2.1 (ρ j).2.2.2.2.2.1 ∧ (ρ j).2.1.1 = nI (yO (rC ρ r) j) ∧ yO (rC ρ r) j < 3 := by
  obtain ⟨o, e, w, a1, a2, a3, a4, a5, e1, e2, e3, b1, b2, -, -, -⟩ := h j hj
  have E1 : yO (rC ρ r) j = o := by show tn (ρ j).2.1.1 = o; rw [e1, tn_nI (by omega)]
  have E2 : yS (rC ρ r) j = e := by show tn (ρ j).2.1.2.1 = e; rw [e2, tn_nI (by omega)]
  have E3 : yW (rC ρ r) j = w := by show tn (ρ j).2.1.2.2 = w; rw [e3, tn_nI (by omega)]
  unfold RJ
  rw [E1, E2, E3]
  refine ⟨⟨e2, e3, a2, a3, a4, a5, fun i hi => ?_, fun i hi => ?_⟩, e1, a1⟩
  · rw [b2 i hi]
    by_cases q : i < e
    · rw [if_pos q, if_pos q]
      obtain ⟨q, a, b, c1, c2, c3, d1, d2, d3⟩ := b1 i q
      show (ρ j).2.2.1 i = nI (tn ((ρ j).2.2.1 i))
      rw [d1, tn_nI (by omega)]
    · rw [if_neg q, if_neg q]
      rfl
  · obtain ⟨q, a, b, c1, c2, c3, d1, d2, d3⟩ := b1 i hi
    have D1 : yL (rC ρ r) j i = q := by show tn ((ρ j).2.2.1 i) = q; rw [d1, tn_nI (by omega)]
    have D2 : yF (rC ρ r) j i = a := by show tn ((ρ j).2.2.2.1 i) = a; rw [d2, tn_nI (by omega)]
    have D3 : yT (rC ρ r) j i = b := by show tn ((ρ j).2.2.2.2.1 i) = b; rw [d3, tn_nI (by omega)]
    rw [D1, D2, D3]
    exact ⟨c1, c2, c3, d2, d3⟩
/-- the search is done for this graph and these rules -/
def OFin (n v : Nat) (g1 g2 g3 : Nat → Int32) (ρ : Nat → RT) (r : Nat) (f : Nat → Int32) : Prop := n ≤ 5 ∧ v ≤ 5 ∧ FNI (gC n v g1 g2 g3) (rC ρ r) f (2 ^ n)
/-- what fewest() answers -/
def FeC (p : Int32) (n v : Nat) (g1 g2 g3 : Nat → Int32) (ρ : Nat → RT) (r : Nat) (a : Int32) : Prop := (opn p = 0 ∧ a = -1001) ∨ (¬ opn p = 0 ∧ (isD g1 n = 0 ∨ 5 < n ∨ 5 < v) ∧ a = -1003) ∨ ∃ k f, k < 3 ∧ p = nI k ∧ ¬ isD g1 n = 0 ∧ OFin n v g1 g2 g3 ρ r f ∧ a = if tbl f k (2 ^ n - 1) 0 1 < zF9 then nI (tbl f k (2 ^ n - 1) 0 1) else -1
theorem st4 {w v i k x y : Nat} {sd sr : Nat → Int32} (hw4 : w ≤ 4) (hw2 : 2 ≤ w) (hv : v ≤ 5) (hs0 : tn (sd 0) < 5) (hs1 : tn (sd 1) < 5) (es0 : sd 0 = nI (tn (sd 0))) (es1 : sd 1 = nI (tn (sd 1))) (h0 : sr 0 = sd 0) (h1 : sr 1 = sd 1) (h2 : sr 2 = nI i) (hi : i < x) (hk : k < y) (hx : (2 < w ∧ x = v) ∨ (w ≤ 2 ∧ x = 1)) (hy : (3 < w ∧ y = v) ∨ (w ≤ 3 ∧ y = 1)) : tn (upd sr 3 (nI k) 0) = tn (sd 0) ∧ tn (upd sr 3 (nI k) 1) = tn (sd 1) ∧ tn (upd sr 3 (nI k) 2) = i ∧ tn (upd sr 3 (nI k) 3) = k ∧ (sAp w (upd sr 3 (nI k)) ↔ zSd w v (fun k_9 => tn (upd sr 3 (nI k) k_9))) := by
  have e0 : upd sr 3 (nI k) 0 = nI (tn (sd 0)) := by rw [pk_un (by decide), h0]; exact es0
  have e1 : upd sr 3 (nI k) 1 = nI (tn (sd 1)) := by rw [pk_un (by decide), h1]; exact es1
  have e2 : upd sr 3 (nI k) 2 = nI i := by rw [pk_un (by decide), h2]
  have e3 : upd sr 3 (nI k) 3 = nI k := pk_us
  refine ⟨by rw [e0, tn_nI (by omega)], by rw [e1, tn_nI (by omega)], by rw [e2, tn_nI (by omega)], by rw [e3, tn_nI (by omega)], ?_⟩
  exact sAp_d hw4 hw2 hv hs0 hs1 e0 e1 e2 e3 hi hk hx hy
theorem IMI_low {g : GG} {r : GR} {f0 f s2 : Nat → Int32} {x : Int32} {b m so ta i q : Nat} (hi : i < yM r) (ho : yO r i < 3) (hb : b < 32) (hso : so < 5) (hta : ta < 5) (hP : zP g b so ta) (hq : zLs zF9 (zBy g r (TD zF9 (tbl f)) i so ta b) q) (hl : (x = 0 ∧ s2 = f ∧ ¬ nI (1 + q) < f ((((((yO r i * 32) + b) * 5) + so) * 5) + ta)) ∨ (x = 1 ∧ s2 = upd f ((((((yO r i * 32) + b) * 5) + so) * 5) + ta) (nI (1 + q)) ∧ nI (1 + q) < f ((((((yO r i * 32) + b) * 5) + so) * 5) + ta))) (h : IMI g r f0 f b m so ta i) : IMI g r f0 s2 b m so ta (i + 1) := by
  have hT := TBI_at h.1 (k := (((((yO r i * 32) + b) * 5) + so) * 5) + ta) (by omega)
  have hF9 : zF9 = 536870912 := rfl
  have h9 := hq.1
  have h8 := hT.2
  have e : tbl f (yO r i) b so ta = tn (f ((((((yO r i * 32) + b) * 5) + so) * 5) + ta)) := rfl
  rcases hl with ⟨-, e2, c⟩ | ⟨-, e2, c⟩
  · rw [e2]
    rw [hT.1] at c
    exact IMI_n hq (nltN (by omega) (by omega) c) h
  · rw [e2]
    rw [hT.1] at c
    exact IMI_y hi ho hb hso hta hP hq (ltN (by omega) (by omega) c) h
theorem low_01 {x : Int32} {P Q R S : Prop} (h : (x = 0 ∧ P ∧ Q) ∨ (x = 1 ∧ R ∧ S)) : x = 0 ∨ x = 1 := by
  rcases h with h | h
  · exact Or.inl h.1
  · exact Or.inr h.1
theorem low_C {x y : Int32} {f f0 s2 : Nat → Int32} {Q R S : Prop} (hy : y = 0 ∨ y = 1) (hC : y = 0 → f = f0) (h : (x = 0 ∧ s2 = f ∧ Q) ∨ (x = 1 ∧ R ∧ S)) : y ||| x = 0 → s2 = f0 := fun c => by
  rcases h with ⟨h1, h2, -⟩ | ⟨h1, -⟩
  · rw [h2]
    rcases hy with e | e
    · exact hC e
    · rw [e, h1] at c
      exact absurd c (by decide)
  · rcases hy with e | e <;> rw [e, h1] at c <;> exact absurd c (by decide)
