/-! the reference's search: a rule's inner nodes, the sets -/
def zSpA (g : GG) (r : GR) (D : Nat → Nat → Nat → Nat → Nat → Prop) (j : Nat) (d : Nat → Nat) (S n : Nat) : Prop := ∃ p c : Nat → Nat, zTh S p ∧ (∀ i, i < 3 → zSl g r D j i d (p i) (c i)) ∧ zA1 g r j d p ∧ n = c 0 + c 1 + c 2
def zByA (g : GG) (r : GR) (D : Nat → Nat → Nat → Nat → Nat → Prop) (j s t S n : Nat) : Prop := ∃ d, d 0 = s ∧ d 1 = t ∧ zSd (yW r j) (zN g) d ∧ zSpA g r D j d S n
theorem zA1_d {g : GG} {r : GR} {D : Nat → Nat → Nat → Nat → Nat → Prop} {j : Nat} {d d2 p c : Nat → Nat} (hw : ∀ i, i < yS r j → yF r j i < yW r j ∧ yT r j i < yW r j) (hd : ∀ k, k < yW r j → d k = d2 k) (hs : ∀ i, i < 3 → zSl g r D j i d (p i) (c i)) (h : zA1 g r j d p) : zA1 g r j d2 p := fun i k hi hk hne x q1 q2 => by
  by_cases w : i < yS r j
  · rw [← hd _ (hw i w).1, ← hd _ (hw i w).2]
    exact h i k hi hk hne x q1 q2
  · have := ((zSl_no w).mp (hs i hi)).1
    rw [this] at q1
    exact (zNd_0 q1).elim
theorem zSpA_d {g : GG} {r : GR} {D : Nat → Nat → Nat → Nat → Nat → Prop} {j S n : Nat} {d d2 : Nat → Nat} (hw : ∀ i, i < yS r j → yF r j i < yW r j ∧ yT r j i < yW r j) (hd : ∀ k, k < yW r j → d k = d2 k) (h : zSpA g r D j d S n) : zSpA g r D j d2 S n := by
  obtain ⟨p, c, h1, h2, h3, h4⟩ := h
  exact ⟨p, c, h1, fun i hi => zSl_d (hw i) hd (h2 i hi), zA1_d hw hd h2 h3, h4⟩
/-- inner nodes by their number t -/
def tky (d : Nat → Nat) (w v : Nat) : Nat := dky d w 2 + v * dky d w 3
def zBK (g : GG) (r : GR) (D : Nat → Nat → Nat → Nat → Nat → Prop) (j s t S k l : Nat) : Prop := l ≤ zM9 ∧ (l < zM9 → zByA g r D j s t S l) ∧ ∀ d n, d 0 = s → d 1 = t → zSd (yW r j) (zN g) d → tky d (yW r j) (zN g) < k → zSpA g r D j d S n → l ≤ n
theorem zBK_0 {g : GG} {r : GR} {D : Nat → Nat → Nat → Nat → Nat → Prop} {j s t S : Nat} : zBK g r D j s t S 0 zM9 := ⟨Nat.le_refl _, fun q => absurd q (Nat.lt_irrefl _), fun d n _ _ _ q => absurd q (Nat.not_lt_zero _)⟩
/-- how many there are -/
def tMx (w v x : Nat) : Prop := (w = 2 ∧ x = 1) ∨ (w = 3 ∧ x = v) ∨ (w = 4 ∧ x = v * v)
theorem tky_lt {w v x : Nat} {d : Nat → Nat} (hv : v ≤ 5) (hv1 : 1 ≤ v) (h : zSd w v d) (hx : tMx w v x) : tky d w v < x := by
  unfold tky dky
  rcases hx with ⟨h1, h2⟩ | ⟨h1, h2⟩ | ⟨h1, h2⟩
  · rw [if_neg (by omega), if_neg (by omega), h2]
    omega
  · have a := (h 2 (by decide) (by omega)).1
    rw [if_pos (by omega), if_neg (by omega), h2]
    omega
  · have a := (h 2 (by decide) (by omega)).1
    have b := (h 3 (by decide) (by omega)).1
    rw [if_pos (by omega), if_pos (by omega), h2]
    rcases (show v = 1 ∨ v = 2 ∨ v = 3 ∨ v = 4 ∨ v = 5 by omega) with e | e | e | e | e <;> subst e <;> omega
theorem tky_mod {w v t x : Nat} {d : Nat → Nat} (hv : v ≤ 5) (hv1 : 1 ≤ v) (h : zSd w v d) (hx : tMx w v x) (ht : tky d w v = t) : dky d w 2 = t % v ∧ dky d w 3 = t / v := by
  have h2 : dky d w 2 < v := by
    unfold dky
    by_cases q : 2 < w
    · rw [if_pos q]; exact (h 2 (by decide) q).1
    · rw [if_neg q]; omega
  unfold tky at ht
  rcases (show v = 1 ∨ v = 2 ∨ v = 3 ∨ v = 4 ∨ v = 5 by omega) with e | e | e | e | e <;> subst e <;> omega
theorem zBK_e {g : GG} {r : GR} {D : Nat → Nat → Nat → Nat → Nat → Prop} {j s t S k l : Nat} (hv : zN g ≤ 5) (hv1 : 1 ≤ zN g) (hx : tMx (yW r j) (zN g) k) (h : zBK g r D j s t S k l) : zLs zM9 (zByA g r D j s t S) l := ⟨h.1, h.2.1, fun n q => by
  obtain ⟨d, h1, h2, h3, h4⟩ := q
  exact h.2.2 d n h1 h2 h3 (tky_lt hv hv1 h3 hx) h4⟩
/-- what areUnlike asks -/
def uLk (w : Nat) (na : Nat → Int32) : Prop := ∀ k, 2 ≤ k → k < w → ∀ j, j < k → ¬ na k = na j
def uLi (k j : Nat) (na : Nat → Int32) (x : Int32) : Prop := YN x ((∀ a, 2 ≤ a → a < k → ∀ b, b < a → ¬ na a = na b) ∧ ∀ b, b < j → ¬ na k = na b)
theorem uLi_0 {na : Nat → Int32} : uLi 2 0 na 1 := YN_y ⟨fun a h1 h2 => by omega, fun b hb => by omega⟩
theorem uLi_n {k j : Nat} {na : Nat → Int32} {x : Int32} (h : uLi k j na x) (c : x = 0) : uLi k (j + 1) na 0 := YN_n (fun q => h.no c ⟨q.1, fun b hb => q.2 b (by omega)⟩)
theorem uLi_e {k j : Nat} {na : Nat → Int32} {x : Int32} (c : na k = na j) : uLi k (j + 1) na 0 := YN_n (fun q => q.2 j (by omega) c)
theorem uLi_y {k j : Nat} {na : Nat → Int32} {x : Int32} (h : uLi k j na x) (c : ¬ x = 0) (c2 : ¬ na k = na j) : uLi k (j + 1) na 1 := YN_y ⟨(h.of c).1, fun b hb => by
  by_cases e : b = j
  · rw [e]; exact c2
  · exact (h.of c).2 b (by omega)⟩
theorem YN_iff {x : Int32} {P Q : Prop} (h : YN x P) (e : P ↔ Q) : YN x Q := by
  rcases h with ⟨a, b⟩ | ⟨a, b⟩
  · exact Or.inl ⟨a, e.mp b⟩
  · exact Or.inr ⟨a, fun q => b (e.mpr q)⟩
theorem uLi_s {k j : Nat} {na : Nat → Int32} {x : Int32} (hk2 : 2 ≤ k) (hj : j = k) (h : uLi k j na x) : uLi (k + 1) 0 na x := by
  subst hj
  refine YN_iff h ⟨fun q => ⟨fun a h1 h2 b hb => ?_, fun b hb => by omega⟩, fun q => ⟨fun a h1 h2 => q.1 a h1 (by omega), fun b hb => ?_⟩⟩
  · by_cases e : a = j
    · subst e; exact q.2 b hb
    · exact q.1 a h1 (by omega) b hb
  · exact q.1 j hk2 (by omega) b hb
theorem uLi_E {k w : Nat} {na : Nat → Int32} {x : Int32} (hk : k = w) (h : uLi k 0 na x) : YN x (uLk w na) := by
  subst hk
  exact YN_iff h ⟨fun q => q.1, fun q => ⟨q, fun b hb => by omega⟩⟩
theorem uL_d {w v s t i k : Nat} {na : Nat → Int32} (hw : w ≤ 4) (hs : s < 5) (ht : t < 5) (hi : i < v) (hk : k < v ∨ w ≤ 3) (hv : v ≤ 5) (e0 : na 0 = nI s) (e1 : na 1 = nI t) (e2 : na 2 = nI i) (e3 : na 3 = nI k) (hk5 : k < 5) : uLk w na ↔ zSd w v (fun m => tn (na m)) := by
  have t0 : tn (na 0) = s := by rw [e0, tn_nI (by omega)]
  have t1 : tn (na 1) = t := by rw [e1, tn_nI (by omega)]
  have t2 : tn (na 2) = i := by rw [e2, tn_nI (by omega)]
  have t3 : tn (na 3) = k := by rw [e3, tn_nI (by omega)]
  have key : ∀ a b, a < 4 → b < 4 → (na a = na b ↔ tn (na a) = tn (na b)) := fun a b ha hb => by
    have f : ∀ m, m < 4 → ∃ q, q < 5 ∧ na m = nI q := fun m hm => by
      rcases (show m = 0 ∨ m = 1 ∨ m = 2 ∨ m = 3 by omega) with e | e | e | e <;> subst e
      · exact ⟨s, hs, e0⟩
      · exact ⟨t, ht, e1⟩
      · exact ⟨i, by omega, e2⟩
      · exact ⟨k, hk5, e3⟩
    obtain ⟨x, hx, ex⟩ := f a ha
    obtain ⟨y, hy, ey⟩ := f b hb
    exact tn_eq ex ey (by omega) (by omega)
  constructor
  · intro h m h1 h2
    refine ⟨?_, fun b hb q => h m h1 h2 b hb ((key m b (by omega) (by omega)).mpr q)⟩
    rcases (show m = 2 ∨ m = 3 by omega) with e | e <;> subst e
    · show tn (na 2) < v
      rw [t2]; exact hi
    · show tn (na 3) < v
      rw [t3]; omega
  · intro h m h1 h2 b hb q
    exact (h m h1 h2).2 b hb ((key m b (by omega) (by omega)).mp q)
theorem zBK_y {g : GG} {r : GR} {D : Nat → Nat → Nat → Nat → Nat → Prop} {j s t S k l q m x : Nat} {na : Nat → Int32} (hv : zN g ≤ 5) (hv1 : 1 ≤ zN g) (hw4 : yW r j ≤ 4) (hx : tMx (yW r j) (zN g) x) (hw : ∀ i, i < yS r j → yF r j i < yW r j ∧ yT r j i < yW r j) (t0 : tn (na 0) = s) (t1 : tn (na 1) = t) (t2 : tn (na 2) = k % zN g) (t3 : tn (na 3) = k / zN g) (hA : zSd (yW r j) (zN g) (fun k => tn (na k))) (hq : zLs zM9 (zSpA g r D j (fun k => tn (na k)) S) q) (hm : (q < l ∧ m = q) ∨ (l ≤ q ∧ m = l)) (h : zBK g r D j s t S k l) : zBK g r D j s t S (k + 1) m := by
  have hl := h.1
  refine ⟨by omega, fun w => ?_, fun d n h1 h2 h3 h4 h5 => ?_⟩
  · rcases hm with ⟨a, b⟩ | ⟨a, b⟩
    · subst b
      exact ⟨_, t0, t1, hA, hq.2.1 (by omega)⟩
    · rw [b] at w ⊢
      exact h.2.1 w
  · rcases (show tky d (yW r j) (zN g) < k ∨ tky d (yW r j) (zN g) = k by omega) with z | z
    · have := h.2.2 d n h1 h2 h3 z h5
      omega
    · obtain ⟨z1, z2⟩ := tky_mod hv hv1 h3 hx z
      have := hq.2.2 n (zSpA_d hw (fun m hm => (dky_eq hw4 t0 t1 t2 t3 h1 h2 z1 z2 m hm).symm) h5)
      omega
theorem zBK_n {g : GG} {r : GR} {D : Nat → Nat → Nat → Nat → Nat → Prop} {j s t S k l x : Nat} {na : Nat → Int32} (hv : zN g ≤ 5) (hv1 : 1 ≤ zN g) (hw4 : yW r j ≤ 4) (hx : tMx (yW r j) (zN g) x) (t0 : tn (na 0) = s) (t1 : tn (na 1) = t) (t2 : tn (na 2) = k % zN g) (t3 : tn (na 3) = k / zN g) (hA : ¬ zSd (yW r j) (zN g) (fun k => tn (na k))) (h : zBK g r D j s t S k l) : zBK g r D j s t S (k + 1) l := ⟨h.1, h.2.1, fun d n h1 h2 h3 h4 h5 => by
  rcases (show tky d (yW r j) (zN g) < k ∨ tky d (yW r j) (zN g) = k by omega) with z | z
  · exact h.2.2 d n h1 h2 h3 z h5
  · obtain ⟨z1, z2⟩ := tky_mod hv hv1 h3 hx z
    exact absurd (zSd_d (fun m hm => (dky_eq hw4 t0 t1 t2 t3 h1 h2 z1 z2 m hm).symm) h3) hA⟩
/-- a set is laid: its numbers are right -/
def MOK (g : GG) (r : GR) (T : Nat → Nat → Nat → Nat → Nat) (S : Nat) : Prop := ∀ a s t, a < 3 → s < zN g → t < zN g → (T a S s t < zM9 → ∃ k, zR g r k a S s t (T a S s t)) ∧ ∀ k n, zR g r k a S s t n → T a S s t ≤ n
/-- all its lesser parts are laid -/
def MLs (g : GG) (r : GR) (T : Nat → Nat → Nat → Nat → Nat) (S : Nat) : Prop := ∀ p, ¬ p = 0 → SB p S → p < 32 → ¬ p = S → MOK g r T p
theorem MOK_k {g : GG} {r : GR} {T T2 : Nat → Nat → Nat → Nat → Nat} {S p : Nat} (hv : zN g ≤ 5) (hk : ∀ a S2 s t, a < 3 → S2 < 32 → s < 5 → t < 5 → ¬ S2 = S → T2 a S2 s t = T a S2 s t) (hp : p < 32) (hne : ¬ p = S) (h : MOK g r T p) : MOK g r T2 p := fun a s t ha hs ht => by
  rw [hk a p s t ha hp (by omega) (by omega) hne]
  exact h a s t ha hs ht
/-- the parts of a rule with more than one edge are lesser -/
theorem pt_ne {Z : Nat → Nat → Nat → Prop} {S e : Nat} {p c : Nat → Nat} (hZ : zZe Z e) (he : 2 ≤ e) (h1 : zTh S p) (h2 : ∀ i, i < 3 → Z i (p i) (c i)) : ∀ i, i < 3 → ¬ p i = S := fun i hi q => by
  have := h1.1
  have := hZ.1 0 _ _ (by omega) (h2 0 (by decide))
  have := hZ.1 1 _ _ (by omega) (h2 1 (by decide))
  rcases (show i = 0 ∨ i = 1 ∨ i = 2 by omega) with e | e | e <;> subst e <;> omega
theorem zTh_i {S : Nat} {p : Nat → Nat} (hS : S < 32) (h : zTh S p) {i : Nat} (hi : i < 3) : p i < 32 ∧ SB (p i) S := by
  obtain ⟨a1, a2, a3, a4, a5, a6, a7, a8, a9⟩ := zTh_sb hS h
  rcases (show i = 0 ∨ i = 1 ∨ i = 2 by omega) with e | e | e <;> subst e
  · exact ⟨a1, a4⟩
  · exact ⟨a2, a8⟩
  · exact ⟨a3, a9⟩
theorem zByA_k {g : GG} {r : GR} {T T2 : Nat → Nat → Nat → Nat → Nat} {j s t S n : Nat} (hS : S < 32) (he : 2 ≤ yS r j) (hk : ∀ a S2 s t, a < 3 → S2 < 32 → s < 5 → t < 5 → ¬ S2 = S → T2 a S2 s t = T a S2 s t) (h : zByA g r (TD zM9 T) j s t S n) : zByA g r (TD zM9 T2) j s t S n := by
  obtain ⟨d, h1, h2, h3, p, c, h4, h5, h6, h7⟩ := h
  refine ⟨d, h1, h2, h3, p, c, h4, fun i hi => ?_, h6, h7⟩
  have hne := pt_ne zZe_sl he h4 h5 i hi
  rcases h5 i hi with w | ⟨w1, w2, ⟨w3, ⟨w4, w5, w6, w7⟩, w8, w9⟩ | w3⟩
  · exact Or.inl w
  · refine Or.inr ⟨w1, w2, Or.inl ⟨w3, ⟨w4, w5, w6, w7⟩, ?_, w9⟩⟩
    rw [hk _ _ _ _ w4 w5 w6 w7 hne]
    exact w8
  · exact Or.inr ⟨w1, w2, Or.inr w3⟩
theorem zR_3 {g : GG} {r : GR} {D : Nat → Nat → Nat → Nat → Nat → Prop} {j S s t n : Nat} {d p c : Nat → Nat} (hj : j < yM r) (hst : ¬ s = t) (h1 : d 0 = s) (h2 : d 1 = t) (h3 : zSd (yW r j) (zN g) d) (h4 : zTh S p) (h5 : ∀ i, i < 3 → zSl g r D j i d (p i) (c i)) (h6 : zA1 g r j d p) (h7 : n = c 0 + c 1 + c 2) (hD : ∀ i a s t m, i < 3 → ¬ p i = 0 → s = d (yF r j i) → t = d (yT r j i) → i < yS r j → D a (p i) s t m → ∃ k, zR g r k a (p i) s t m) : ∃ k, zR g r k (yO r j) S s t (1 + n) := by
  have hs : ∀ i, i < 3 → ∃ k, zSl g r (zR g r k) j i d (p i) (c i) := fun i hi => by
    rcases h5 i hi with w | ⟨w1, w2, ⟨w3, w4⟩ | w3⟩
    · exact ⟨0, Or.inl w⟩
    · obtain ⟨k, hk⟩ := hD i _ _ _ _ hi w2 rfl rfl w1 w4
      exact ⟨k, Or.inr ⟨w1, w2, Or.inl ⟨w3, hk⟩⟩⟩
    · exact ⟨0, Or.inr ⟨w1, w2, Or.inr w3⟩⟩
  obtain ⟨k0, e0⟩ := hs 0 (by decide)
  obtain ⟨k1, e1⟩ := hs 1 (by decide)
  obtain ⟨k2, e2⟩ := hs 2 (by decide)
  refine ⟨k0 + k1 + k2 + 1, hst, j, d, p, c, ⟨hj, rfl, h1, h2, h3, h4, fun i hi => ?_, by omega⟩, h6⟩
  rcases (show i = 0 ∨ i = 1 ∨ i = 2 by omega) with e | e | e
  · subst e
    exact zSl_mono (fun _ _ _ _ _ q => by rw [show k0 + k1 + k2 = k0 + (k1 + k2) by omega]; exact zR_m q _) e0
  · subst e
    exact zSl_mono (fun _ _ _ _ _ q => by rw [show k0 + k1 + k2 = k1 + (k0 + k2) by omega]; exact zR_m q _) e1
  · subst e
    exact zSl_mono (fun _ _ _ _ _ q => by rw [show k0 + k1 + k2 = k2 + (k0 + k1) by omega]; exact zR_m q _) e2
/-- rules as the reference holds them -/
def yMF (r : GR) : Prop := ∀ j, j < yM r → yO r j < 3 ∧ 1 ≤ yS r j ∧ yS r j ≤ 3 ∧ 2 ≤ yW r j ∧ yW r j ≤ 4 ∧ (∀ i, i < yS r j → yF r j i < yW r j ∧ yT r j i < yW r j) ∧ (yS r j = 1 → yW r j = 2)
theorem rM_wf {ro re rn rg : Nat → Int32} {r : Nat} (h : MRQ ro re rn rg r) : yMF (rMd r ro re rn rg) := fun j hj => by
  obtain ⟨-, a1, -, a2, a3, -, a4, a5, a6, a7⟩ := MRQ_at h hj
  exact ⟨a1, a2, a3, a4, a5, fun i hi => ⟨(a6 i hi).2.2.1, (a6 i hi).2.2.2⟩, a7⟩
theorem d_lt {g : GG} {r : GR} {j s t k : Nat} {d : Nat → Nat} (hs : s < zN g) (ht : t < zN g) (h1 : d 0 = s) (h2 : d 1 = t) (h3 : zSd (yW r j) (zN g) d) (hk : k < yW r j) : d k < zN g := by
  rcases (show k = 0 ∨ k = 1 ∨ 2 ≤ k by omega) with e | e | e
  · subst e; omega
  · subst e; omega
  · exact (h3 k e hk).1
theorem zByA_R {g : GG} {r : GR} {T : Nat → Nat → Nat → Nat → Nat} {j s t S n : Nat} (hW : yMF r) (hS : S < 32) (hj : j < yM r) (he : 2 ≤ yS r j) (hst : ¬ s = t) (hs : s < zN g) (ht : t < zN g) (hL : MLs g r T S) (h : zByA g r (TD zM9 T) j s t S n) : ∃ k, zR g r k (yO r j) S s t (1 + n) := by
  obtain ⟨d, h1, h2, h3, p, c, h4, h5, h6, h7⟩ := h
  refine zR_3 hj hst h1 h2 h3 h4 h5 h6 h7 (fun i a s2 t2 m hi hp e1 e2 hl q => ?_)
  obtain ⟨⟨w4, w5, w6, w7⟩, w8, w9⟩ := q
  obtain ⟨f1, f2⟩ := (hW j hj).2.2.2.2.2.1 i hl
  have hne := pt_ne zZe_sl he h4 h5 i hi
  have ha := hL (p i) hp (zTh_i hS h4 hi).2 w5 hne a s2 t2 w4 (by rw [e1]; exact d_lt hs ht h1 h2 h3 f1) (by rw [e2]; exact d_lt hs ht h1 h2 h3 f2)
  rw [w8] at w9 ⊢
  exact ha.1 w9
/-- the numbers of one set and two ends while they are laid -/
def keepM (f f2 : Nat → Int32) (S s t : Nat) : Prop := ∀ a S2 s2 t2, a < 3 → S2 < 32 → s2 < 5 → t2 < 5 → ¬ (S2 = S ∧ s2 = s ∧ t2 = t) → trb f2 a S2 s2 t2 = trb f a S2 s2 t2
theorem keepM_u {f f2 : Nat → Int32} {S s t a : Nat} {x : Int32} (hS : S < 32) (hs : s < 5) (ht : t < 5) (h : keepM f f2 S s t) : keepM f (upd f2 ((((((a * 5) + s) * 5) + t) * 32) + S) x) S s t := fun b S2 s2 t2 h1 h2 h3 h4 h5 => by
  rw [← h b S2 s2 t2 h1 h2 h3 h4 h5]
  unfold trb
  rw [pk_un (fun e => h5 (by have := tr_ix h3 h4 hs ht h2 hS e; exact ⟨this.2.1, this.2.2.1, this.2.2.2⟩))]
theorem keepM_S {f f2 : Nat → Int32} {S s t : Nat} (h : keepM f f2 S s t) : ∀ a S2 s t, a < 3 → S2 < 32 → s < 5 → t < 5 → ¬ S2 = S → trb f2 a S2 s t = trb f a S2 s t := fun a S2 s2 t2 h1 h2 h3 h4 h5 => h a S2 s2 t2 h1 h2 h3 h4 (fun q => h5 q.1)
def LE0 (f f2 : Nat → Int32) (S s t k : Nat) : Prop := FWI f2 ∧ keepM f f2 S s t ∧ ∀ a, a < k → trb f2 a S s t = zM9
theorem LE0_0 {f : Nat → Int32} {S s t : Nat} (h : FWI f) : LE0 f f S s t 0 := ⟨h, fun _ _ _ _ _ _ _ _ _ => rfl, fun a ha => by omega⟩
theorem LE0_s {f f2 : Nat → Int32} {S s t k : Nat} (hS : S < 32) (hs : s < 5) (ht : t < 5) (h : LE0 f f2 S s t k) : LE0 f (upd f2 ((((((k * 5) + s) * 5) + t) * 32) + S) 1000000) S s t (k + 1) := by
  obtain ⟨h1, h2, h3⟩ := h
  refine ⟨FWI_s (q := 1000000) h1 (Nat.le_refl _), keepM_u hS hs ht h2, fun a ha => ?_⟩
  by_cases e : a = k
  · subst e
    unfold trb
    rw [pk_us]
    exact tn_nI (n := 1000000) (by decide)
  · rw [← h3 a (by omega)]
    unfold trb
    rw [pk_un (fun q => e (tr_ix hs ht hs ht hS hS q).1)]
def LEI (g : GG) (r : GR) (f f2 : Nat → Int32) (S s t i : Nat) : Prop := FWI f2 ∧ keepM f f2 S s t ∧ (∀ a, a < 3 → trb f2 a S s t < zM9 → ∃ k, zR g r k a S s t (trb f2 a S s t)) ∧ ∀ j n, j < i → 2 ≤ yS r j → ¬ s = t → zByA g r (TD zM9 (trb f)) j s t S n → trb f2 (yO r j) S s t ≤ 1 + n
theorem LEI_0 {g : GG} {r : GR} {f f2 : Nat → Int32} {S s t k : Nat} (hk : 3 ≤ k) (h : LE0 f f2 S s t k) : LEI g r f f2 S s t 0 := ⟨h.1, h.2.1, fun a ha q => by rw [h.2.2 a (by omega)] at q; exact absurd q (Nat.lt_irrefl _), fun j n hj => absurd hj (Nat.not_lt_zero _)⟩
theorem LEI_k {g : GG} {r : GR} {f f2 : Nat → Int32} {S s t i : Nat} (c : ¬ 2 ≤ yS r i) (h : LEI g r f f2 S s t i) : LEI g r f f2 S s t (i + 1) := ⟨h.1, h.2.1, h.2.2.1, fun j n hj he => by
  rcases (show j < i ∨ j = i by omega) with q | q
  · exact h.2.2.2 j n q he
  · subst q; exact absurd he c⟩
theorem LEI_x {g : GG} {r : GR} {f f2 : Nat → Int32} {S s t i k : Nat} (c : s = t) (h : LEI g r f f2 S s t i) : LEI g r f f2 S s t k := ⟨h.1, h.2.1, h.2.2.1, fun j n _ _ he => absurd c he⟩
theorem LEI_n {g : GG} {r : GR} {f f2 : Nat → Int32} {S s t i q : Nat} (hS : S < 32) (hq : zLs zM9 (zByA g r (TD zM9 (trb f2)) i s t S) q) (c : trb f2 (yO r i) S s t ≤ q + 1) (h : LEI g r f f2 S s t i) : LEI g r f f2 S s t (i + 1) := ⟨h.1, h.2.1, h.2.2.1, fun j n hj he hst w => by
  rcases (show j < i ∨ j = i by omega) with z | z
  · exact h.2.2.2 j n z he hst w
  · subst z
    have := hq.2.2 n (zByA_k hS he (keepM_S h.2.1) w)
    omega⟩
theorem LEI_y {g : GG} {r : GR} {f f2 : Nat → Int32} {S s t i q : Nat} (hW : yMF r) (hv : zN g ≤ 5) (hS : S < 32) (hs : s < zN g) (ht : t < zN g) (hst : ¬ s = t) (hi : i < yM r) (he : 2 ≤ yS r i) (hL : MLs g r (trb f) S) (hq : zLs zM9 (zByA g r (TD zM9 (trb f2)) i s t S) q) (c : q + 1 < trb f2 (yO r i) S s t) (h : LEI g r f f2 S s t i) : LEI g r f (upd f2 ((((((yO r i * 5) + s) * 5) + t) * 32) + S) (nI (q + 1))) S s t (i + 1) := by
  obtain ⟨h1, h2, h3, h4⟩ := h
  have ho := (hW i hi).1
  have hT : trb f2 (yO r i) S s t ≤ zM9 := (FWI_at h1 (by omega)).2
  have hM9 : zM9 = 1000000 := rfl
  have hnew : trb (upd f2 ((((((yO r i * 5) + s) * 5) + t) * 32) + S) (nI (q + 1))) (yO r i) S s t = q + 1 := by
    unfold trb
    rw [pk_us, tn_nI (by omega)]
  have hother : ∀ a, ¬ a = yO r i → trb (upd f2 ((((((yO r i * 5) + s) * 5) + t) * 32) + S) (nI (q + 1))) a S s t = trb f2 a S s t := fun a ha => by
    unfold trb
    rw [pk_un (fun e => ha (tr_ix (by omega) (by omega) (by omega) (by omega) hS hS e).1)]
  refine ⟨FWI_s h1 (by omega), keepM_u hS (by omega) (by omega) h2, fun a ha w => ?_, fun j n hj hej hst2 w => ?_⟩
  · by_cases e : a = yO r i
    · subst e
      rw [hnew]
      obtain ⟨k, hk⟩ := zByA_R hW hS hi he hst hs ht (fun p p1 p2 p3 p4 => MOK_k hv (keepM_S h2) p3 p4 (hL p p1 p2 p3 p4)) (hq.2.1 (by omega))
      rw [Nat.add_comm] at hk
      exact ⟨k, hk⟩
    · rw [hother a e] at w ⊢
      exact h3 a ha w
  · have hle : trb (upd f2 ((((((yO r i * 5) + s) * 5) + t) * 32) + S) (nI (q + 1))) (yO r j) S s t ≤ trb f2 (yO r j) S s t := by
      by_cases e : yO r j = yO r i
      · rw [e, hnew]; omega
      · rw [hother _ e]; exact Nat.le_refl _
    rcases (show j < i ∨ j = i by omega) with z | z
    · exact Nat.le_trans hle (h4 j n z hej hst2 w)
    · subst z
      have := hq.2.2 n (zByA_k hS hej (keepM_S h2) w)
      rw [hnew]
      omega
