/-! the reference's search: what its walks ask -/
theorem fw_le {f : Nat → Int32} {k q : Nat} (h : FWI f) (hk : k < 2400) (hq : q < 2147483648) (c : f k ≤ nI q) : tn (f k) ≤ q := by
  obtain ⟨e, l⟩ := FWI_at h hk
  rw [e] at c
  exact leN hq (by have : zM9 = 1000000 := rfl; omega) c
theorem fw_lt {f : Nat → Int32} {k q : Nat} (h : FWI f) (hk : k < 2400) (hq : q < 2147483648) (c : ¬ f k ≤ nI q) : q < tn (f k) := by
  obtain ⟨e, l⟩ := FWI_at h hk
  rw [e] at c
  exact nleN hq (by have : zM9 = 1000000 := rfl; omega) c
/-- a rule's edges as they lie there -/
def MJE (gr : GR) (j : Nat) (re rg : Nat → Int32) : Prop := re j = nI (yS gr j) ∧ 1 ≤ yS gr j ∧ yS gr j ≤ 3 ∧ yW gr j ≤ 4 ∧ ∀ i, i < yS gr j → rg (3 * j + i) = nI (tn (rg (3 * j + i))) ∧ tn (rg (3 * j + i)) < 500 ∧ yF gr j i < yW gr j ∧ yT gr j i < yW gr j ∧ yL gr j i = tn (rg (3 * j + i)) / 100 ∧ yF gr j i = tn (rg (3 * j + i)) / 10 % 10 ∧ yT gr j i = tn (rg (3 * j + i)) % 10
theorem MJ_e {ro re rn rg : Nat → Int32} {r j : Nat} (h : MJ (rMd r ro re rn rg) j ro re rn rg) : MJE (rMd r ro re rn rg) j re rg := by
  obtain ⟨-, -, h1, h2, h3, -, -, h4, h5, -⟩ := h
  exact ⟨h1, h2, h3, h4, fun i hi => ⟨(h5 i hi).1, (h5 i hi).2.1, (h5 i hi).2.2.1, (h5 i hi).2.2.2, rfl, rfl, rfl⟩⟩
theorem MJE_e {gr : GR} {j i : Nat} {re rg : Nat → Int32} (h : MJE gr j re rg) (hi : i < yS gr j) : ∃ x, x < 500 ∧ x / 10 % 10 < 4 ∧ x % 10 < 4 ∧ rg (3 * j + i) = nI x ∧ yL gr j i = x / 100 ∧ yF gr j i = x / 10 % 10 ∧ yT gr j i = x % 10 := by
  obtain ⟨a1, a2, a3, a4, a5, a6, a7⟩ := h.2.2.2.2 i hi
  have hw := h.2.2.2.1
  exact ⟨_, a2, by omega, by omega, a1, a5, a6, a7⟩
theorem MJE_w {gr : GR} {j : Nat} {re rg : Nat → Int32} (h : MJE gr j re rg) : ∀ i, i < yS gr j → yF gr j i < yW gr j ∧ yT gr j i < yW gr j := fun i hi => ⟨(h.2.2.2.2 i hi).2.2.1, (h.2.2.2.2 i hi).2.2.2.1⟩
theorem zLs_cg {B : Nat} {P Q : Nat → Prop} {q : Nat} (e : ∀ n, P n ↔ Q n) (h : zLs B P q) : zLs B Q q := ⟨h.1, fun w => (e q).mp (h.2.1 w), fun n w => h.2.2 n ((e n).mpr w)⟩
/-- steps for an edge, as a slot's cost -/
theorem sf_Z {g : GG} {r : GR} {D : Nat → Nat → Nat → Nat → Nat → Prop} {B j i x p q : Nat} {d : Nat → Nat} (hi : i < yS r j) (hl : yL r j i = x / 100) (hf : yF r j i = x / 10 % 10) (ht : yT r j i = x % 10) (hp : ¬ p = 0) (h : zLs B (zSv g D (x / 100) p (d (x / 10 % 10)) (d (x % 10))) q) : zLs B (zSl g r D j i d p) q := zLs_cg (fun n => by
  rw [zSl_sv hi, hl, hf, ht]
  exact ⟨fun w => ⟨hp, w⟩, fun w => w.2⟩) h
section
variable {g : GG} {r : GR} {D : Nat → Nat → Nat → Nat → Nat → Prop} {d : Nat → Nat} {j S on tw : Nat}
theorem sp2_n (he : yS r j = 2) (hY : ¬ zAq g on (S - on) (d (yF r j 0)) (d (yT r j 0)) (d (yF r j 1)) (d (yT r j 1))) : ∀ p c : Nat → Nat, zTh S p → (∀ i, i < 3 → zSl g r D j i d (p i) (c i)) → p 0 = on → p 1 = S - on → ¬ zA1 g r j d p := fun p c h1 h2 q1 q2 w => hY (by
  have q := (zA1_2 he h2).mp w
  rw [q1, q2] at q
  exact q)
theorem sp2_y (he : yS r j = 2) (hY : zAq g on (S - on) (d (yF r j 0)) (d (yT r j 0)) (d (yF r j 1)) (d (yT r j 1))) : ∀ p : Nat → Nat, p 0 = on → p 1 = S - on → p 2 = 0 → (∀ i, i < 3 → ∃ n, zSl g r D j i d (p i) n) → zA1 g r j d p := fun p q1 q2 q3 hs => by
  obtain ⟨n0, s0⟩ := hs 0 (by decide)
  obtain ⟨n1, s1⟩ := hs 1 (by decide)
  obtain ⟨n2, s2⟩ := hs 2 (by decide)
  refine (zA1_2 (D := D) (c := p3 n0 n1 n2) he (fun i hi => ?_)).mpr (by rw [q1, q2]; exact hY)
  rcases (show i = 0 ∨ i = 1 ∨ i = 2 by omega) with e | e | e <;> subst e
  · exact s0
  · exact s1
  · exact s2
theorem sp3_n (hY : ¬ (zAq g on tw (d (yF r j 0)) (d (yT r j 0)) (d (yF r j 1)) (d (yT r j 1)) ∧ zAq g on (S - on - tw) (d (yF r j 0)) (d (yT r j 0)) (d (yF r j 2)) (d (yT r j 2)) ∧ zAq g tw (S - on - tw) (d (yF r j 1)) (d (yT r j 1)) (d (yF r j 2)) (d (yT r j 2)))) : ∀ p c : Nat → Nat, zTh S p → (∀ i, i < 3 → zSl g r D j i d (p i) (c i)) → p 0 = on → p 1 = tw → p 2 = S - on - tw → ¬ zA1 g r j d p := fun p c h1 h2 q1 q2 q3 w => hY (by
  have q := zA1_3.mp w
  rw [q1, q2, q3] at q
  exact q)
theorem sp3_y (h1 : zAq g on tw (d (yF r j 0)) (d (yT r j 0)) (d (yF r j 1)) (d (yT r j 1))) (h2 : zAq g on (S - on - tw) (d (yF r j 0)) (d (yT r j 0)) (d (yF r j 2)) (d (yT r j 2))) (h3 : zAq g tw (S - on - tw) (d (yF r j 1)) (d (yT r j 1)) (d (yF r j 2)) (d (yT r j 2))) : ∀ p : Nat → Nat, p 0 = on → p 1 = tw → p 2 = S - on - tw → zA1 g r j d p := fun p q1 q2 q3 => zA1_3.mpr (by rw [q1, q2, q3]; exact ⟨h1, h2, h3⟩)
end
section
variable {Z : Nat → Nat → Nat → Prop} {A : (Nat → Nat) → Prop} {S e on l f : Nat}
theorem zRJ_2N (he : e = 2) (hS : S < 32) (hZ : zZe Z e) (hA : ∀ p c : Nat → Nat, zTh S p → (∀ i, i < 3 → Z i (p i) (c i)) → p 0 = on → p 1 = S - on → ¬ A p) (h : zRI Z A S on l) : zRJ Z A S e on 32 l := by
  subst he
  exact zRJ_2n hS hZ hA h
theorem zRJ_2Y {x m : Nat} (he : e = 2) (hS : S < 32) (hZ : zZe Z e) (ho : SB on S) (ho2 : on < 32) (hf : zLs zM9 (Z 0 on) f) (hx : zLs zM9 (Z 1 (S - on)) x) (hz : Z 2 0 0) (hA : ∀ p : Nat → Nat, p 0 = on → p 1 = S - on → p 2 = 0 → (∀ i, i < 3 → ∃ n, Z i (p i) n) → A p) (hm : (f + x < l ∧ m = f + x) ∨ (l ≤ f + x ∧ m = l)) (h : zRI Z A S on l) : zRJ Z A S e on 32 m := by
  subst he
  exact zRJ_2y hS hZ ho ho2 hf hx hz hA hm h
end
theorem tMx_le {w v x : Nat} (h : tMx w v x) (hv : 1 ≤ v) : x ≤ v * v := by
  have := Nat.mul_le_mul hv (Nat.le_refl v)
  have := Nat.mul_le_mul hv hv
  rcases h with ⟨-, h⟩ | ⟨-, h⟩ | ⟨-, h⟩ <;> omega
/-- the nodes at hand while the inner ones are tried -/
theorem nb4 {na nb : Nat → Int32} {t v : Nat} (h : nb 0 = na 0 ∧ nb 1 = na 1) (h1 : t % v < 5) (h2 : t / v < 5) : tn (upd (upd nb 2 (nI (t % v))) 3 (nI (t / v)) 0) = tn (na 0) ∧ tn (upd (upd nb 2 (nI (t % v))) 3 (nI (t / v)) 1) = tn (na 1) ∧ tn (upd (upd nb 2 (nI (t % v))) 3 (nI (t / v)) 2) = t % v ∧ tn (upd (upd nb 2 (nI (t % v))) 3 (nI (t / v)) 3) = t / v := by
  refine ⟨by rw [pk_un (by decide), pk_un (by decide), h.1], by rw [pk_un (by decide), pk_un (by decide), h.2], ?_, ?_⟩
  · rw [pk_un (by decide), pk_us, tn_nI (by omega)]
  · rw [pk_us, tn_nI (by omega)]
theorem nbU {na nb : Nat → Int32} {w t v x : Nat} (h : nb 0 = na 0 ∧ nb 1 = na 1) (hs : SDn 4 na) (hw4 : w ≤ 4) (hv1 : 1 ≤ v) (hv : v ≤ 5) (hx : tMx w v x) (ht : t < x) (h1 : t % v < 5) (h2 : t / v < 5) : uLk w (upd (upd nb 2 (nI (t % v))) 3 (nI (t / v))) ↔ zSd w v (fun m => tn (upd (upd nb 2 (nI (t % v))) 3 (nI (t / v)) m)) := by
  obtain ⟨e0, l0⟩ := SDn_tn hs (by decide : 0 < 4)
  obtain ⟨e1, l1⟩ := SDn_tn hs (by decide : 1 < 4)
  refine uL_d hw4 l0 l1 (Nat.mod_lt t hv1) ?_ hv ?_ ?_ ?_ pk_us h2
  · rcases hx with ⟨a, -⟩ | ⟨a, -⟩ | ⟨a, b⟩
    · exact Or.inr (by omega)
    · exact Or.inr (by omega)
    · exact Or.inl (Nat.div_lt_of_lt_mul (by rw [← b]; exact ht))
  · rw [pk_un (by decide), pk_un (by decide), h.1]; exact e0
  · rw [pk_un (by decide), pk_un (by decide), h.2]; exact e1
  · rw [pk_un (by decide), pk_us]
theorem na_dd {na : Nat → Int32} {a b k : Nat} (hk : k < 2) (ha : a < 5) (hb : b < 5) : tn (upd (upd na 0 (nI a)) 1 (nI b) k) = dd2 a b k := by
  rcases (show k = 0 ∨ k = 1 by omega) with e | e <;> subst e
  · rw [pk_un (by decide), pk_us, tn_nI (by omega)]; rfl
  · rw [pk_us, tn_nI (by omega)]; rfl
/-- the masks of nodes -/
theorem nm_y {n v i k : Nat} {ea : Nat → Int32} (hE : EAI n v ea) (hv : v ≤ 5) (hk : k < n) (h : i.testBit k = true) : nI (NMm ea i k) ||| (((1 : Int32) <<< (nI (tn (ea k) / 10 % 10) &&& 31)) ||| ((1 : Int32) <<< (nI (tn (ea k) % 10) &&& 31))) = nI (NMm ea i (k + 1)) := by
  obtain ⟨-, -, a, b⟩ := EAI_at hE hv hk
  have e : NMm ea i (k + 1) = NMm ea i k ||| (2 ^ (tn (ea k) / 10 % 10) ||| 2 ^ (tn (ea k) % 10)) := by
    show zMk _ _ (bY i) (k + 1) = _
    rw [zMk, if_pos (show bY i k = true from h)]
    rfl
  rw [e]
  exact (zm_or (NMm_lt hE hv (Nat.le_of_lt hk)) (by omega) (by omega)).1
theorem nm_n {i k : Nat} {ea : Nat → Int32} (h : ¬ i.testBit k = true) : nI (NMm ea i k) ||| 0 = nI (NMm ea i (k + 1)) := by
  have e : NMm ea i (k + 1) = NMm ea i k := by
    show zMk _ _ (bY i) (k + 1) = _
    rw [zMk, if_neg (show ¬ bY i k = true from h)]
    rfl
  rw [e, Int32.or_zero]
theorem NFI_u {n i : Nat} {ea nf : Nat → Int32} {x : Int32} (h : NFI n ea nf i) : NFI n ea (upd nf i x) i := fun S hS => by
  rw [pk_un (by omega)]
  exact h S hS
theorem NFI_s {n i k : Nat} {ea nf : Nat → Int32} (hk : k = n) (h : NFI n ea nf i ∧ nf i = nI (NMm ea i k)) : NFI n ea nf (i + 1) := fun S hS => by
  by_cases e : S = i
  · subst e hk; exact h.2
  · exact h.1 S (by omega)
def FeN (k n v : Nat) (ea ro re rn rg : Nat → Int32) (r : Nat) (a : Int32) : Prop := ((mDn ea n = 0 ∨ 5 < n ∨ 5 < v) ∧ a = -1003) ∨ ∃ f, ¬ mDn ea n = 0 ∧ 1 ≤ n ∧ FWI f ∧ MOF n v ea ro re rn rg r f ∧ a = if trb f k (2 ^ n - 1) 0 1 < zM9 then nI (trb f k (2 ^ n - 1) 0 1) else -1
theorem FeN_M {p : Int32} {k n v : Nat} {ea ro re rn rg : Nat → Int32} {r : Nat} {a : Int32} (hk : k < 3) (e : p = nI k) (c : ¬ wi p 0 2 = 0) (h : FeN k n v ea ro re rn rg r a) : FeM p n v ea ro re rn rg r a := by
  rcases h with ⟨h1, h2⟩ | ⟨f, h1, h2, h3, h4, h5⟩
  · exact Or.inr (Or.inl ⟨c, h1, h2⟩)
  · exact Or.inr (Or.inr ⟨k, f, hk, e, h1, h2, h3, h4, h5⟩)
