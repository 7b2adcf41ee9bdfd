/-! the reference's search: rules of one edge, whole sets, the whole -/
def dd2 (s t : Nat) : Nat → Nat := fun k => if k = 0 then s else t
theorem dd2_lt {s t k v : Nat} (hs : s < v) (ht : t < v) : dd2 s t k < v := by
  unfold dd2
  split
  · exact hs
  · exact ht
/-- closed under the first i rules of one edge, at two ends -/
def CL1 (g : GG) (r : GR) (f : Nat → Int32) (S s t i : Nat) : Prop := ∀ j q, j < i → yS r j = 1 → ¬ s = t → zSv g (TD zM9 (trb f)) (yL r j 0) S (dd2 s t (yF r j 0)) (dd2 s t (yT r j 0)) q → trb f (yO r j) S s t ≤ 1 + q
/-- what the table says of a set is so -/
def SND (g : GG) (r : GR) (f : Nat → Int32) (S : Nat) : Prop := ∀ a s t, a < 3 → s < zN g → t < zN g → trb f a S s t < zM9 → ∃ k, zR g r k a S s t (trb f a S s t)
/-- other sets are as they were -/
def KS (f f2 : Nat → Int32) (S : Nat) : Prop := ∀ a S2 s t, a < 3 → S2 < 32 → s < 5 → t < 5 → ¬ S2 = S → trb f2 a S2 s t = trb f a S2 s t
theorem KS_0 {f : Nat → Int32} {S : Nat} : KS f f S := fun _ _ _ _ _ _ _ _ _ => rfl
theorem KS_t {f f2 f3 : Nat → Int32} {S : Nat} (h1 : KS f f2 S) (h2 : KS f2 f3 S) : KS f f3 S := fun a S2 s t w1 w2 w3 w4 w5 => (h2 a S2 s t w1 w2 w3 w4 w5).trans (h1 a S2 s t w1 w2 w3 w4 w5)
theorem MLs_k {g : GG} {r : GR} {f f2 : Nat → Int32} {S : Nat} (hv : zN g ≤ 5) (hk : KS f f2 S) (h : MLs g r (trb f) S) : MLs g r (trb f2) S := fun p p1 p2 p3 p4 => MOK_k hv hk p3 p4 (h p p1 p2 p3 p4)
theorem zA1_1 {g : GG} {r : GR} {j S : Nat} {d : Nat → Nat} : zA1 g r j d (fun i => if i = 0 then S else 0) := fun i i2 hi hi2 hne v q1 q2 => by
  by_cases e : i = 0
  · have e2 : (if i2 = 0 then S else 0) = 0 := if_neg (fun z => hne (e.trans z.symm))
    have q3 : zNd g (if i2 = 0 then S else 0) v := q2
    rw [e2] at q3
    exact (zNd_0 q3).elim
  · have e2 : (if i = 0 then S else 0) = 0 := if_neg e
    have q3 : zNd g (if i = 0 then S else 0) v := q1
    rw [e2] at q3
    exact (zNd_0 q3).elim
theorem zSv_R {g : GG} {r : GR} {f : Nat → Int32} {j S s t q : Nat} (hW : yMF r) (hj : j < yM r) (h1 : yS r j = 1) (hst : ¬ s = t) (hS : ¬ S = 0) (hs : s < zN g) (ht : t < zN g) (hSn : SND g r f S) (h : zSv g (TD zM9 (trb f)) (yL r j 0) S (dd2 s t (yF r j 0)) (dd2 s t (yT r j 0)) q) : ∃ k, zR g r k (yO r j) S s t (1 + q) := by
  have hw2 := (hW j hj).2.2.2.2.2.2 h1
  refine zR_3 (D := TD zM9 (trb f)) (d := dd2 s t) (p := fun i => if i = 0 then S else 0) (c := fun i => if i = 0 then q else 0) hj hst rfl rfl (fun k k1 k2 => by omega) (zTh_1 S) (fun i hi => ?_) zA1_1 rfl (fun i a s2 t2 m hi hp e1 e2 hl w => ?_)
  · by_cases e : i = 0
    · subst e
      exact (zSl_sv (by omega)).mpr ⟨hS, h⟩
    · exact (zSl_no (by omega)).mpr ⟨if_neg e, if_neg e⟩
  · have e : i = 0 := by omega
    subst e
    obtain ⟨⟨w1, w2, w3, w4⟩, w5, w6⟩ := w
    have w5 : m = trb f a S s2 t2 := w5
    rw [w5] at w6 ⊢
    exact hSn a s2 t2 w1 (by rw [e1]; exact dd2_lt hs ht) (by rw [e2]; exact dd2_lt hs ht) w6
/-- the rules of one edge at two ends, as far as they are -/
def LSI (g : GG) (r : GR) (f f2 : Nat → Int32) (S s t i : Nat) (go : Int32) : Prop := (∀ k, tn (f2 k) ≤ tn (f k)) ∧ KS f f2 S ∧ SND g r f2 S ∧ (go = 0 → f2 = f ∧ CL1 g r f S s t i)
theorem LSI_0 {g : GG} {r : GR} {f : Nat → Int32} {S s t : Nat} (h : SND g r f S) : LSI g r f f S s t 0 0 := ⟨fun _ => Nat.le_refl _, KS_0, h, fun _ => ⟨rfl, fun j q hj => absurd hj (Nat.not_lt_zero _)⟩⟩
theorem LSI_k {g : GG} {r : GR} {f f2 : Nat → Int32} {S s t i : Nat} {go : Int32} (c : ¬ yS r i = 1) (h : LSI g r f f2 S s t i go) : LSI g r f f2 S s t (i + 1) go := ⟨h.1, h.2.1, h.2.2.1, fun z => ⟨(h.2.2.2 z).1, fun j q hj he => by
  rcases (show j < i ∨ j = i by omega) with w | w
  · exact (h.2.2.2 z).2 j q w he
  · subst w; exact absurd he c⟩⟩
theorem LSI_x {g : GG} {r : GR} {f f2 : Nat → Int32} {S s t i k : Nat} {go : Int32} (c : s = t) (h : LSI g r f f2 S s t i go) : LSI g r f f2 S s t k go := ⟨h.1, h.2.1, h.2.2.1, fun z => ⟨(h.2.2.2 z).1, fun _ _ _ _ e => absurd c e⟩⟩
theorem LSI_n {g : GG} {r : GR} {f f2 : Nat → Int32} {S s t i q : Nat} {go go2 : Int32} (hg : go2 = 0 → go = 0) (hq : zLs zM9 (zSv g (TD zM9 (trb f2)) (yL r i 0) S (dd2 s t (yF r i 0)) (dd2 s t (yT r i 0))) q) (c : trb f2 (yO r i) S s t ≤ q + 1) (h : LSI g r f f2 S s t i go) : LSI g r f f2 S s t (i + 1) go2 := ⟨h.1, h.2.1, h.2.2.1, fun z => by
  obtain ⟨h4, h5⟩ := h.2.2.2 (hg z)
  refine ⟨h4, fun j x hj he hst w => ?_⟩
  rcases (show j < i ∨ j = i by omega) with y | y
  · exact h5 j x y he hst w
  · subst y
    rw [h4] at hq c
    have := hq.2.2 x w
    omega⟩
theorem LSI_y {g : GG} {r : GR} {f f2 : Nat → Int32} {S s t i q : Nat} {go : Int32} (hW : yMF r) (hv : zN g ≤ 5) (hF : FWI f2) (hi : i < yM r) (h1 : yS r i = 1) (hst : ¬ s = t) (hS : ¬ S = 0) (hS2 : S < 32) (hs : s < zN g) (ht : t < zN g) (hq : zLs zM9 (zSv g (TD zM9 (trb f2)) (yL r i 0) S (dd2 s t (yF r i 0)) (dd2 s t (yT r i 0))) q) (c : q + 1 < trb f2 (yO r i) S s t) (h : LSI g r f f2 S s t i go) : LSI g r f (upd f2 ((((((yO r i * 5) + s) * 5) + t) * 32) + S) (nI (q + 1))) S s t (i + 1) 1 := by
  obtain ⟨a1, a2, a3, a4⟩ := h
  have ho := (hW i hi).1
  have hT : trb f2 (yO r i) S s t ≤ zM9 := (FWI_at hF (by omega)).2
  have hM9 : zM9 = 1000000 := rfl
  have hnew : trb (upd f2 ((((((yO r i * 5) + s) * 5) + t) * 32) + S) (nI (q + 1))) (yO r i) S s t = q + 1 := by
    unfold trb
    rw [pk_us, tn_nI (by omega)]
  have hother : ∀ a S2 s2 t2, S2 < 32 → s2 < 5 → t2 < 5 → ¬ (a = yO r i ∧ S2 = S ∧ s2 = s ∧ t2 = t) → trb (upd f2 ((((((yO r i * 5) + s) * 5) + t) * 32) + S) (nI (q + 1))) a S2 s2 t2 = trb f2 a S2 s2 t2 := fun a S2 s2 t2 w1 w2 w3 w4 => by
    unfold trb
    rw [pk_un (fun e => w4 (tr_ix w2 w3 (by omega) (by omega) w1 hS2 e))]
  refine ⟨fun k => ?_, fun a S2 s2 t2 w1 w2 w3 w4 w5 => ?_, fun a s2 t2 w1 w2 w3 w4 => ?_, fun z => absurd z (by decide)⟩
  · by_cases e : k = (((((yO r i * 5) + s) * 5) + t) * 32) + S
    · subst e
      rw [pk_us, tn_nI (by omega)]
      exact Nat.le_trans (Nat.le_of_lt c) (a1 _)
    · rw [pk_un e]; exact a1 k
  · rw [hother a S2 s2 t2 w2 w3 w4 (fun e => w5 e.2.1)]
    exact a2 a S2 s2 t2 w1 w2 w3 w4 w5
  · by_cases e : a = yO r i ∧ S = S ∧ s2 = s ∧ t2 = t
    · obtain ⟨e1, -, e3, e4⟩ := e
      subst e1 e3 e4
      rw [hnew]
      obtain ⟨k, hk⟩ := zSv_R hW hi h1 hst hS hs ht a3 (hq.2.1 (by omega))
      rw [Nat.add_comm] at hk
      exact ⟨k, hk⟩
    · rw [hother a S s2 t2 hS2 (by omega) (by omega) e] at w4 ⊢
      exact a3 a s2 t2 w1 w2 w3 w4
/-- closed under the rules of more edges -/
def BIG (g : GG) (r : GR) (f : Nat → Int32) (S : Nat) : Prop := ∀ j s t n, s < zN g → t < zN g → j < yM r → 2 ≤ yS r j → ¬ s = t → zByA g r (TD zM9 (trb f)) j s t S n → trb f (yO r j) S s t ≤ 1 + n
theorem zByA_b {g : GG} {r : GR} {f f2 : Nat → Int32} {j s t S n : Nat} (hS : S < 32) (he : 2 ≤ yS r j) (hk : KS f f2 S) (h : zByA g r (TD zM9 (trb f2)) j s t S n) : zByA g r (TD zM9 (trb f)) j s t S n := zByA_k hS he (fun a S2 s t w1 w2 w3 w4 w5 => (hk a S2 s t w1 w2 w3 w4 w5).symm) h
theorem BIG_le {g : GG} {r : GR} {f f2 : Nat → Int32} {S : Nat} (hS : S < 32) (hk : KS f f2 S) (hl : ∀ k, tn (f2 k) ≤ tn (f k)) (h : BIG g r f S) : BIG g r f2 S := fun j s t n h1 h2 h3 h4 h5 h6 => Nat.le_trans (hl _) (h j s t n h1 h2 h3 h4 h5 (zByA_b hS h4 hk h6))
/-- a pass over all ends -/
def PSI (g : GG) (r : GR) (f f2 : Nat → Int32) (S so ta : Nat) (go : Int32) : Prop := (∀ k, tn (f2 k) ≤ tn (f k)) ∧ KS f f2 S ∧ SND g r f2 S ∧ (go = 0 → f2 = f ∧ ∀ s t, s < zN g → t < zN g → (s < so ∨ (s = so ∧ t < ta)) → CL1 g r f S s t (yM r))
theorem PSI_0 {g : GG} {r : GR} {f : Nat → Int32} {S : Nat} {go : Int32} (h : SND g r f S) : PSI g r f f S 0 0 go := ⟨fun _ => Nat.le_refl _, KS_0, h, fun _ => ⟨rfl, fun s t _ _ q => by omega⟩⟩
theorem PSI_s {g : GG} {r : GR} {f f2 f3 : Nat → Int32} {S so ta : Nat} {go x go2 : Int32} (hg : go2 = 0 → go = 0 ∧ x = 0) (hL : LSI g r f2 f3 S so ta (yM r) x) (h : PSI g r f f2 S so ta go) : PSI g r f f3 S so (ta + 1) go2 := ⟨fun k => Nat.le_trans (hL.1 k) (h.1 k), KS_t h.2.1 hL.2.1, hL.2.2.1, fun z => by
  obtain ⟨z1, z2⟩ := hg z
  obtain ⟨a1, a2⟩ := h.2.2.2 z1
  obtain ⟨b1, b2⟩ := hL.2.2.2 z2
  refine ⟨b1.trans a1, fun s t hs ht q => ?_⟩
  rcases (show (s < so ∨ (s = so ∧ t < ta)) ∨ (s = so ∧ t = ta) by omega) with w | ⟨w1, w2⟩
  · exact a2 s t hs ht w
  · subst w1 w2
    rw [← a1]
    exact b2⟩
theorem PSI_r {g : GG} {r : GR} {f f2 : Nat → Int32} {S so ta : Nat} {go : Int32} (ht : zN g ≤ ta) (h : PSI g r f f2 S so ta go) : PSI g r f f2 S (so + 1) 0 go := ⟨h.1, h.2.1, h.2.2.1, fun z => ⟨(h.2.2.2 z).1, fun s t hs ht2 q => (h.2.2.2 z).2 s t hs ht2 (by omega)⟩⟩
/-- between two passes -/
def WSI (g : GG) (r : GR) (f0 f : Nat → Int32) (S : Nat) (go : Int32) : Prop := KS f0 f S ∧ SND g r f S ∧ BIG g r f S ∧ (go = 0 → ∀ s t, s < zN g → t < zN g → CL1 g r f S s t (yM r))
theorem WSI_s {g : GG} {r : GR} {f0 f f2 : Nat → Int32} {S so : Nat} {go go2 : Int32} (hS : S < 32) (hso : zN g ≤ so) (hp : PSI g r f f2 S so 0 go2) (h : WSI g r f0 f S go) : WSI g r f0 f2 S go2 := ⟨KS_t h.1 hp.2.1, hp.2.2.1, BIG_le hS hp.2.1 hp.1 h.2.2.1, fun z s t hs ht => by
  obtain ⟨a1, a2⟩ := hp.2.2.2 z
  rw [a1]
  exact a2 s t hs ht (Or.inl (by omega))⟩
theorem FWI_le {f : Nat → Int32} {S a s t : Nat} (hF : FWI f) (hS : S < 32) (ha : a < 3) (hs : s < 5) (ht : t < 5) : trb f a S s t ≤ zM9 := (FWI_at hF (by omega)).2
/-- a set is right -/
theorem MOK_fin {g : GG} {r : GR} {f : Nat → Int32} {S : Nat} (hW : yMF r) (hv : zN g ≤ 5) (hS : S < 32) (hL : MLs g r (trb f) S) (hF : FWI f) (hSn : SND g r f S) (hB : BIG g r f S) (hC : ∀ s t, s < zN g → t < zN g → CL1 g r f S s t (yM r)) : MOK g r (trb f) S := by
  have key : ∀ k a s t n, a < 3 → s < zN g → t < zN g → zR g r k a S s t n → trb f a S s t ≤ n := by
    intro k
    induction k with
    | zero => intro a s t n _ _ _ h; exact h.elim
    | succ k ih =>
      intro a s t n ha hs ht h
      obtain ⟨hst, j, d, p, c, ⟨a1, a2, a3, a4, a5, a6, a7, a8⟩, h3⟩ := h
      obtain ⟨w1, w2, w3, w4, w5, w6, w7⟩ := hW j a1
      have hT : trb f a S s t ≤ zM9 := FWI_le hF hS ha (by omega) (by omega)
      have hsum := a6.1
      by_cases e : yS r j = 1
      · have m1 := (zSl_no (by omega)).mp (a7 1 (by decide))
        have m2 := (zSl_no (by omega)).mp (a7 2 (by decide))
        have hp0 : p 0 = S := by omega
        have m0 := (zSl_sv (show 0 < yS r j by omega)).mp (a7 0 (by decide))
        rw [hp0] at m0
        obtain ⟨f1, f2⟩ := w6 0 (by omega)
        have hw := w7 e
        have hd : ∀ k, k < 2 → d k = dd2 s t k := fun k hk => by
          rcases (show k = 0 ∨ k = 1 by omega) with z | z <;> subst z
          · exact a3
          · exact a4
        rw [hd _ (by omega), hd _ (by omega)] at m0
        rcases m0.2 with ⟨z1, z2⟩ | ⟨z1, z2, z3⟩
        · have hu := dd2_lt (k := yF r j 0) hs ht
          have hu2 := dd2_lt (k := yT r j 0) hs ht
          have i1 := ih _ _ _ _ z1 hu hu2 z2
          by_cases y : trb f (yL r j 0) S (dd2 s t (yF r j 0)) (dd2 s t (yT r j 0)) < zM9
          · have := hC s t hs ht j _ a1 e hst (Or.inl ⟨z1, ⟨z1, hS, by omega, by omega⟩, rfl, y⟩)
            rw [a2] at this
            omega
          · omega
        · have := hC s t hs ht j 0 a1 e hst (Or.inr ⟨z1, rfl, z3⟩)
          rw [a2] at this
          omega
      · have he : 2 ≤ yS r j := by omega
        have hne := pt_ne zZe_sl he a6 a7
        have hsl : ∀ i, i < 3 → (∃ n2, n2 ≤ c i ∧ zSl g r (TD zM9 (trb f)) j i d (p i) n2) ∨ zM9 ≤ c i := fun i hi => by
          rcases a7 i hi with w | ⟨x1, x2, ⟨x3, x4⟩ | x3⟩
          · exact Or.inl ⟨c i, Nat.le_refl _, Or.inl w⟩
          · obtain ⟨f1, f2⟩ := w6 i x1
            have u1 := d_lt hs ht a3 a4 a5 f1
            have u2 := d_lt hs ht a3 a4 a5 f2
            have q := (hL (p i) x2 (zTh_i hS a6 hi).2 (zTh_i hS a6 hi).1 (hne i hi) _ _ _ x3 u1 u2).2 _ _ x4
            by_cases y : trb f (yL r j i) (p i) (d (yF r j i)) (d (yT r j i)) < zM9
            · exact Or.inl ⟨_, q, Or.inr ⟨x1, x2, Or.inl ⟨x3, ⟨x3, (zTh_i hS a6 hi).1, by omega, by omega⟩, rfl, y⟩⟩⟩
            · exact Or.inr (by omega)
          · exact Or.inl ⟨c i, Nat.le_refl _, Or.inr ⟨x1, x2, Or.inr x3⟩⟩
        rcases hsl 0 (by decide) with ⟨n0, b0, c0⟩ | z
        · rcases hsl 1 (by decide) with ⟨n1, b1, c1⟩ | z
          · rcases hsl 2 (by decide) with ⟨n2, b2, c2⟩ | z
            · have := hB j s t (n0 + n1 + n2) hs ht a1 he hst ⟨d, a3, a4, a5, p, p3 n0 n1 n2, a6, fun i hi => by
                rcases (show i = 0 ∨ i = 1 ∨ i = 2 by omega) with e | e | e <;> subst e
                · exact c0
                · exact c1
                · exact c2, h3, rfl⟩
              rw [a2] at this
              omega
            · omega
          · omega
        · omega
  exact fun a s t ha hs ht => ⟨fun h => hSn a s t ha hs ht h, fun k n h => key k a s t n ha hs ht h⟩
/-- the ends of a set, as far as they are laid -/
def EPI (g : GG) (r : GR) (f f2 : Nat → Int32) (S so ta : Nat) : Prop := FWI f2 ∧ KS f f2 S ∧ ∀ s t, s < zN g → t < zN g → (s < so ∨ (s = so ∧ t < ta)) → (∀ a, a < 3 → trb f2 a S s t < zM9 → ∃ k, zR g r k a S s t (trb f2 a S s t)) ∧ ∀ j n, j < yM r → 2 ≤ yS r j → ¬ s = t → zByA g r (TD zM9 (trb f)) j s t S n → trb f2 (yO r j) S s t ≤ 1 + n
theorem EPI_0 {g : GG} {r : GR} {f : Nat → Int32} {S : Nat} (h : FWI f) : EPI g r f f S 0 0 := ⟨h, KS_0, fun s t _ _ q => by omega⟩
theorem EPI_s {g : GG} {r : GR} {f f2 f3 : Nat → Int32} {S so ta : Nat} (hW : yMF r) (hS : S < 32) (hv : zN g ≤ 5) (hL : LEI g r f2 f3 S so ta (yM r)) (h : EPI g r f f2 S so ta) : EPI g r f f3 S so (ta + 1) := by
  obtain ⟨h1, h2, h3⟩ := h
  obtain ⟨l1, l2, l3, l4⟩ := hL
  refine ⟨l1, KS_t h2 (keepM_S l2), fun s t hs ht q => ?_⟩
  by_cases w : s = so ∧ t = ta
  · obtain ⟨w1, w2⟩ := w
    subst w1 w2
    exact ⟨l3, fun j n hj he hst z => l4 j n hj he hst (zByA_k hS he h2 z)⟩
  · obtain ⟨b1, b2⟩ := h3 s t hs ht (by omega)
    have hk : ∀ a, a < 3 → trb f3 a S s t = trb f2 a S s t := fun a ha => l2 a S s t ha hS (by omega) (by omega) (fun z => w z.2)
    refine ⟨fun a ha z => ?_, fun j n hj he hst z => ?_⟩
    · rw [hk a ha] at z ⊢
      exact b1 a ha z
    · rw [hk _ (hW j hj).1]
      exact b2 j n hj he hst z
theorem EPI_r {g : GG} {r : GR} {f f2 : Nat → Int32} {S so ta : Nat} (ht : zN g ≤ ta) (h : EPI g r f f2 S so ta) : EPI g r f f2 S (so + 1) 0 := ⟨h.1, h.2.1, fun s t hs ht2 q => h.2.2 s t hs ht2 (by omega)⟩
theorem EPI_e {g : GG} {r : GR} {f f2 : Nat → Int32} {S so : Nat} (hS : S < 32) (hso : zN g ≤ so) (h : EPI g r f f2 S so 0) : WSI g r f f2 S 1 := ⟨h.2.1, fun a s t ha hs ht q => (h.2.2 s t hs ht (Or.inl (by omega))).1 a ha q, fun j s t n hs ht hj he hst z => (h.2.2 s t hs ht (Or.inl (by omega))).2 j n hj he hst (zByA_b hS he h.2.1 z), fun z => absurd z (by decide)⟩
theorem WSI_e {g : GG} {r : GR} {f0 f : Nat → Int32} {S : Nat} {go : Int32} (hW : yMF r) (hv : zN g ≤ 5) (hS : S < 32) (hL : MLs g r (trb f0) S) (hF : FWI f) (c : go = 0) (h : WSI g r f0 f S go) : KS f0 f S ∧ MOK g r (trb f) S := ⟨h.1, MOK_fin hW hv hS (MLs_k hv h.1 hL) hF h.2.1 h.2.2.1 (h.2.2.2 c)⟩
/-- the sets, by how many edges they have -/
def LFI (g : GG) (r : GR) (f : Nat → Int32) (mm sx : Nat) : Prop := FWI f ∧ ∀ S, 1 ≤ S → S < 2 ^ zE g → (zpc S < mm ∨ (zpc S = mm ∧ S < sx)) → MOK g r (trb f) S
theorem LFI_0 {g : GG} {r : GR} {f : Nat → Int32} (hn : zE g ≤ 5) (h : FWI f) : LFI g r f 1 1 := ⟨h, fun S h1 h2 q => by
  have := Nat.pow_le_pow_right (n := 2) (by decide) hn
  have := zpc_pos (S := S) (by omega) (by omega)
  omega⟩
theorem LFI_n {g : GG} {r : GR} {f : Nat → Int32} {mm sx : Nat} (c : ¬ zpc sx = mm) (h : LFI g r f mm sx) : LFI g r f mm (sx + 1) := ⟨h.1, fun S h1 h2 q => h.2 S h1 h2 (by
  rcases q with q | ⟨q1, q2⟩
  · exact Or.inl q
  · refine Or.inr ⟨q1, ?_⟩
    by_cases e : S = sx
    · subst e; exact absurd q1 c
    · omega)⟩
theorem LFI_m {g : GG} {r : GR} {f : Nat → Int32} {mm sx : Nat} (c : zpc sx = mm) (hx : sx < 2 ^ zE g) (hn : zE g ≤ 5) (h : LFI g r f mm sx) : MLs g r (trb f) sx := fun p p1 p2 p3 p4 => by
  have := Nat.pow_le_pow_right (n := 2) (by decide) hn
  have h32 : sx < 32 := by omega
  have := zpc_lt h32 p3 p2 p4
  have := ((zm_sub h32 p3).2 p2).2.1
  exact h.2 p (by omega) (by omega) (Or.inl (by omega))
theorem LFI_y {g : GG} {r : GR} {f f2 : Nat → Int32} {mm sx : Nat} (hv : zN g ≤ 5) (hn : zE g ≤ 5) (hF : FWI f2) (hk : KS f f2 sx) (hM : MOK g r (trb f2) sx) (h : LFI g r f mm sx) : LFI g r f2 mm (sx + 1) := ⟨hF, fun S h1 h2 q => by
  have := Nat.pow_le_pow_right (n := 2) (by decide) hn
  by_cases e : S = sx
  · subst e; exact hM
  · exact MOK_k hv hk (by omega) e (h.2 S h1 h2 (by omega))⟩
theorem LFI_r {g : GG} {r : GR} {f : Nat → Int32} {mm sx : Nat} (hx : 2 ^ zE g ≤ sx) (h : LFI g r f mm sx) : LFI g r f (mm + 1) 1 := ⟨h.1, fun S h1 h2 q => h.2 S h1 h2 (by omega)⟩
theorem LFI_e {g : GG} {r : GR} {f : Nat → Int32} {mm : Nat} (hn : zE g ≤ 5) (hm : zE g < mm) (h : LFI g r f mm 1) : ∀ S, 1 ≤ S → S < 2 ^ zE g → MOK g r (trb f) S := fun S h1 h2 => h.2 S h1 h2 (Or.inl (Nat.lt_of_le_of_lt (zpc_le hn h2) hm))
/-- the reference's search is done for this graph and these rules -/
def MOF (n v : Nat) (ea ro re rn rg : Nat → Int32) (r : Nat) (f : Nat → Int32) : Prop := n ≤ 5 ∧ v ≤ 5 ∧ ∀ S, 1 ≤ S → S < 2 ^ n → MOK (gM n v ea) (rMd r ro re rn rg) (trb f) S
def FeM (p : Int32) (n v : Nat) (ea ro re rn rg : Nat → Int32) (r : Nat) (a : Int32) : Prop := (wi p 0 2 = 0 ∧ a = -1001) ∨ (¬ wi p 0 2 = 0 ∧ (mDn ea n = 0 ∨ 5 < n ∨ 5 < v) ∧ a = -1003) ∨ ∃ k f, k < 3 ∧ p = nI k ∧ ¬ mDn ea n = 0 ∧ 1 ≤ n ∧ FWI f ∧ MOF n v ea ro re rn rg r f ∧ a = if trb f k (2 ^ n - 1) 0 1 < zM9 then nI (trb f k (2 ^ n - 1) 0 1) else -1
