/-! the reference's search, just as it is -/
abbrev zM9 : Nat := 1000000
def trb (f : Nat → Int32) (a S s t : Nat) : Nat := tn (f ((((((a * 5) + s) * 5) + t) * 32) + S))
theorem FWI_at {f : Nat → Int32} {k : Nat} (h : FWI f) (hk : k < 2400) : f k = nI (tn (f k)) ∧ tn (f k) ≤ zM9 := by
  obtain ⟨q, hq, e⟩ := h k hk
  rw [e, tn_nI (by omega)]
  exact ⟨rfl, hq⟩
theorem tr_ix {a S s t a2 S2 s2 t2 : Nat} (h1 : s < 5) (h2 : t < 5) (h3 : s2 < 5) (h4 : t2 < 5) (hS : S < 32) (hS2 : S2 < 32) (e : (((((a * 5) + s) * 5) + t) * 32) + S = (((((a2 * 5) + s2) * 5) + t2) * 32) + S2) : a = a2 ∧ S = S2 ∧ s = s2 ∧ t = t2 := by omega
def gM (n v : Nat) (ea : Nat → Int32) : GG := (n, v, fun j => tn (ea j) / 100, fun j => tn (ea j) / 10 % 10, fun j => tn (ea j) % 10)
def rMd (r : Nat) (ro re rn rg : Nat → Int32) : GR := (r, fun j => tn (ro j), fun j => tn (re j), fun j => tn (rn j), fun j i => tn (rg (3 * j + i)) / 100, fun j i => tn (rg (3 * j + i)) / 10 % 10, fun j i => tn (rg (3 * j + i)) % 10)
def EAI (n v : Nat) (ea : Nat → Int32) : Prop := ∀ j, j < n → ∃ q a b, q < 5 ∧ a < v ∧ b < v ∧ ea j = nI (100 * q + 10 * a + b)
theorem EAI_at {n v j : Nat} {ea : Nat → Int32} (h : EAI n v ea) (hv : v ≤ 5) (hj : j < n) : ea j = nI (tn (ea j)) ∧ tn (ea j) < 500 ∧ tn (ea j) / 10 % 10 < v ∧ tn (ea j) % 10 < v := by
  obtain ⟨q, a, b, h1, h2, h3, e⟩ := h j hj
  rw [e, tn_nI (by omega)]
  exact ⟨rfl, by omega, by omega, by omega⟩
def MRQ (ro re rn rg : Nat → Int32) (r : Nat) : Prop := ∀ j, j < r → ∃ o e w, o < 3 ∧ 1 ≤ e ∧ e ≤ 3 ∧ 2 ≤ w ∧ w ≤ 4 ∧ ro j = nI o ∧ re j = nI e ∧ rn j = nI w ∧ (∀ i, i < e → ∃ q a b, q < 5 ∧ a < w ∧ b < w ∧ rg (3 * j + i) = nI (100 * q + 10 * a + b)) ∧ (e = 1 → w = 2)
/-- the rule at hand -/
def MJ (gr : GR) (j : Nat) (ro re rn rg : Nat → Int32) : Prop := ro j = nI (yO gr j) ∧ yO gr j < 3 ∧ re j = nI (yS gr j) ∧ 1 ≤ yS gr j ∧ yS gr j ≤ 3 ∧ rn j = nI (yW gr j) ∧ 2 ≤ yW gr j ∧ yW gr j ≤ 4 ∧ (∀ i, i < yS gr j → rg (3 * j + i) = nI (tn (rg (3 * j + i))) ∧ tn (rg (3 * j + i)) < 500 ∧ yF gr j i < yW gr j ∧ yT gr j i < yW gr j) ∧ (yS gr j = 1 → yW gr j = 2)
theorem MRQ_at {ro re rn rg : Nat → Int32} {r j : Nat} (h : MRQ ro re rn rg r) (hj : j < r) : MJ (rMd r ro re rn rg) j ro re rn rg := by
  obtain ⟨o, e, w, a1, a2, a3, a4, a5, e1, e2, e3, b1, b2⟩ := h j hj
  have E1 : yO (rMd r ro re rn rg) j = o := by show tn (ro j) = o; rw [e1, tn_nI (by omega)]
  have E2 : yS (rMd r ro re rn rg) j = e := by show tn (re j) = e; rw [e2, tn_nI (by omega)]
  have E3 : yW (rMd r ro re rn rg) j = w := by show tn (rn j) = w; rw [e3, tn_nI (by omega)]
  unfold MJ
  rw [E1, E2, E3]
  refine ⟨e1, a1, e2, a2, a3, e3, a4, a5, fun i hi => ?_, b2⟩
  obtain ⟨q, a, b, c1, c2, c3, d⟩ := b1 i hi
  have D2 : yF (rMd r ro re rn rg) j i = a := by show tn (rg (3 * j + i)) / 10 % 10 = a; rw [d, tn_nI (by omega)]; omega
  have D3 : yT (rMd r ro re rn rg) j i = b := by show tn (rg (3 * j + i)) % 10 = b; rw [d, tn_nI (by omega)]; omega
  rw [D2, D3, d, tn_nI (by omega)]
  exact ⟨rfl, by omega, c2, c3⟩
/-- the nodes of the sets, as masks -/
def NMm (ea : Nat → Int32) (S n : Nat) : Nat := zMk (fun k => tn (ea k) / 10 % 10) (fun k => tn (ea k) % 10) (bY S) n
def NFI (n : Nat) (ea nf : Nat → Int32) (m : Nat) : Prop := ∀ S, S < m → nf S = nI (NMm ea S n)
theorem NMm_lt {n v S : Nat} {ea : Nat → Int32} (h : EAI n v ea) (hv : v ≤ 5) {i : Nat} (hi : i ≤ n) : NMm ea S i < 32 :=
  zMk_lt i (fun k hk => by
    obtain ⟨-, -, a, c⟩ := EAI_at h hv (show k < n by omega)
    exact ⟨Nat.lt_of_lt_of_le a hv, Nat.lt_of_lt_of_le c hv⟩)
theorem NMm_y {n v S x : Nat} {ea : Nat → Int32} : (NMm ea S n).testBit x = true ↔ zNd (gM n v ea) S x := zMk_bit x n
theorem zNd_vM {n v S x : Nat} {ea : Nat → Int32} (h : EAI n v ea) (hv : v ≤ 5) (q : zNd (gM n v ea) S x) : x < v := by
  obtain ⟨i, hi, -, e⟩ := q
  obtain ⟨-, -, a, b⟩ := EAI_at h hv hi
  rcases e with e | e
  · have e : tn (ea i) / 10 % 10 = x := e
    omega
  · have e : tn (ea i) % 10 = x := e
    omega
/-- steps for an edge -/
theorem so_a {n v a d b c : Nat} {ea fw : Nat → Int32} (ha : a < 3) (hd : d < 32) (hb : b < 5) (hc : c < 5) (h : trb fw a d b c ≤ zM9) : zLs zM9 (zSv (gM n v ea) (TD zM9 (trb fw)) a d b c) (trb fw a d b c) :=
  ⟨h, fun q => Or.inl ⟨ha, ⟨ha, hd, hb, hc⟩, rfl, q⟩, fun m q => by
    rcases q with ⟨-, -, w, -⟩ | ⟨w, -⟩
    · exact Nat.le_of_eq w.symm
    · omega⟩
def sIs (n v : Nat) (ea : Nat → Int32) (a d b c i : Nat) (x : Int32) : Prop := (x = 1 ∧ zEd (gM n v ea) d a b c) ∨ (x = 0 ∧ ∀ j, j < i → ¬ (d = 2 ^ j ∧ ea j = nI (100 * a + 10 * b + c)))
theorem sIs_k {n v a d b c i : Nat} {ea : Nat → Int32} {x : Int32} (h : sIs n v ea a d b c i x) (hx : ¬ x = 0) : sIs n v ea a d b c (i + 1) 1 := by
  rcases h with ⟨-, h⟩ | ⟨h, -⟩
  · exact Or.inl ⟨rfl, h⟩
  · exact absurd h hx
theorem sIs_n {n v a d b c i : Nat} {ea : Nat → Int32} {x : Int32} (h : sIs n v ea a d b c i x) (hx : x = 0) (hn : ¬ (d = 2 ^ i ∧ ea i = nI (100 * a + 10 * b + c))) : sIs n v ea a d b c (i + 1) 0 := by
  rcases h with ⟨h, -⟩ | ⟨-, h⟩
  · rw [hx] at h; exact absurd h (by decide)
  · refine Or.inr ⟨rfl, fun j hj => ?_⟩
    by_cases e : j = i
    · rw [e]; exact hn
    · exact h j (by omega)
theorem ed_dig {x a b c : Nat} (hb : b < 10) (hc : c < 10) : x = 100 * a + 10 * b + c ↔ x / 100 = a ∧ x / 10 % 10 = b ∧ x % 10 = c := by omega
theorem sIs_y {n v a d b c i : Nat} {ea : Nat → Int32} (hE : EAI n v ea) (hv : v ≤ 5) (hi : i < n) (ha : a < 5) (hb : b < 5) (hc : c < 5) (h1 : d = 2 ^ i) (h2 : ea i = nI (100 * a + 10 * b + c)) : sIs n v ea a d b c (i + 1) 1 := by
  have e : tn (ea i) = 100 * a + 10 * b + c := by rw [h2, tn_nI (by omega)]
  have e2 := (ed_dig (by omega) (by omega)).mp e
  exact Or.inl ⟨rfl, i, hi, h1, e2.1, e2.2.1, e2.2.2⟩
theorem sIs_e {n v a d b c i : Nat} {ea : Nat → Int32} {x : Int32} (hE : EAI n v ea) (hv : v ≤ 5) (ha : 3 ≤ a) (hb : b < 5) (hc : c < 5) (hi : n ≤ i) (h : sIs n v ea a d b c i x) {fw : Nat → Int32} : (¬ x = 0 → zLs zM9 (zSv (gM n v ea) (TD zM9 (trb fw)) a d b c) 0) ∧ (x = 0 → zLs zM9 (zSv (gM n v ea) (TD zM9 (trb fw)) a d b c) zM9) := by
  constructor
  · intro c'
    rcases h with ⟨-, h⟩ | ⟨h, -⟩
    · exact zLs_0 (Or.inr ⟨ha, rfl, h⟩)
    · exact absurd h c'
  · intro c'
    rcases h with ⟨h, -⟩ | ⟨-, h⟩
    · rw [c'] at h; exact absurd h (by decide)
    · refine zLs_no (fun m q => ?_)
      rcases q with ⟨w, -⟩ | ⟨-, -, j, w1, w2, w3, w4, w5⟩
      · omega
      · have w3 : tn (ea j) / 100 = a := w3
        have w4 : tn (ea j) / 10 % 10 = b := w4
        have w5 : tn (ea j) % 10 = c := w5
        have e := (ed_dig (x := tn (ea j)) (a := a) (b := b) (c := c) (by omega) (by omega)).mpr ⟨w3, w4, w5⟩
        have w1 : j < n := w1
        refine h j (by omega) ⟨w2, ?_⟩
        rw [← e]
        exact (EAI_at hE hv w1).1
/-- two parts meet only where their edges do -/
def zAq (g : GG) (S S2 a b c d : Nat) : Prop := ∀ x, zNd g S x → zNd g S2 x → (x = a ∨ x = b) ∧ (x = c ∨ x = d)
theorem aa_iff {n v S S2 a b c d : Nat} {ea : Nat → Int32} (hE : EAI n v ea) (hv : v ≤ 5) (ha : a < 5) (hb : b < 5) (hc : c < 5) (hd : d < 5) : nI (NMm ea S n &&& NMm ea S2 n) &&& (nI ((2 ^ a ||| 2 ^ b) &&& (2 ^ c ||| 2 ^ d)) ^^^ (-1)) = 0 ↔ zAq (gM n v ea) S S2 a b c d := by
  have h1 := NMm_lt (S := S) hE hv (Nat.le_refl n)
  have h2 := NMm_lt (S := S2) hE hv (Nat.le_refl n)
  have p1 := (np_pair ha hb).2
  have p2 := (np_pair hc hd).2
  rw [(zm_sub (np_and p1 p2).2 (np_and h1 h2).2).1]
  constructor
  · intro h x q1 q2
    have hx : x < 5 := Nat.lt_of_lt_of_le (zNd_vM hE hv q1) hv
    have w := h x hx (tb_and.mpr ⟨NMm_y.mpr q1, NMm_y.mpr q2⟩)
    rw [tb_and, tb_pair, tb_pair] at w
    exact w
  · intro h x hx q
    rw [tb_and, NMm_y (v := v), NMm_y (v := v)] at q
    rw [tb_and, tb_pair, tb_pair]
    exact h x q.1 q.2
theorem zA1_2 {g : GG} {r : GR} {D : Nat → Nat → Nat → Nat → Nat → Prop} {j : Nat} {d p c : Nat → Nat} (he : yS r j = 2) (hs : ∀ i, i < 3 → zSl g r D j i d (p i) (c i)) : zA1 g r j d p ↔ zAq g (p 0) (p 1) (d (yF r j 0)) (d (yT r j 0)) (d (yF r j 1)) (d (yT r j 1)) := by
  have h2 : p 2 = 0 := ((zSl_no (by omega)).mp (hs 2 (by decide))).1
  constructor
  · intro h x q1 q2
    exact ⟨h 0 1 (by decide) (by decide) (by decide) x q1 q2, h 1 0 (by decide) (by decide) (by decide) x q2 q1⟩
  · intro h i k hi hk hne x q1 q2
    rcases (show (i = 0 ∧ k = 1) ∨ (i = 1 ∧ k = 0) ∨ i = 2 ∨ k = 2 by omega) with ⟨e1, e2⟩ | ⟨e1, e2⟩ | e | e
    · subst e1 e2; exact (h x q1 q2).1
    · subst e1 e2; exact (h x q2 q1).2
    · subst e; rw [h2] at q1; exact (zNd_0 q1).elim
    · subst e; rw [h2] at q2; exact (zNd_0 q2).elim
theorem zA1_3 {g : GG} {r : GR} {j : Nat} {d p : Nat → Nat} : zA1 g r j d p ↔ zAq g (p 0) (p 1) (d (yF r j 0)) (d (yT r j 0)) (d (yF r j 1)) (d (yT r j 1)) ∧ zAq g (p 0) (p 2) (d (yF r j 0)) (d (yT r j 0)) (d (yF r j 2)) (d (yT r j 2)) ∧ zAq g (p 1) (p 2) (d (yF r j 1)) (d (yT r j 1)) (d (yF r j 2)) (d (yT r j 2)) := by
  constructor
  · intro h
    refine ⟨fun x q1 q2 => ?_, fun x q1 q2 => ?_, fun x q1 q2 => ?_⟩
    · exact ⟨h 0 1 (by decide) (by decide) (by decide) x q1 q2, h 1 0 (by decide) (by decide) (by decide) x q2 q1⟩
    · exact ⟨h 0 2 (by decide) (by decide) (by decide) x q1 q2, h 2 0 (by decide) (by decide) (by decide) x q2 q1⟩
    · exact ⟨h 1 2 (by decide) (by decide) (by decide) x q1 q2, h 2 1 (by decide) (by decide) (by decide) x q2 q1⟩
  · rintro ⟨h01, h02, h12⟩ i k hi hk hne x q1 q2
    rcases (show i = 0 ∨ i = 1 ∨ i = 2 by omega) with e | e | e <;> rcases (show k = 0 ∨ k = 1 ∨ k = 2 by omega) with f | f | f <;> subst e <;> subst f
    · exact absurd rfl hne
    · exact (h01 x q1 q2).1
    · exact (h02 x q1 q2).1
    · exact (h01 x q2 q1).2
    · exact absurd rfl hne
    · exact (h12 x q1 q2).1
    · exact (h02 x q2 q1).2
    · exact (h12 x q2 q1).2
    · exact absurd rfl hne
/-- sets from a greater one down: what is skipped -/
theorem dn_le {S on p : Nat} (hS : S < 32) (ho : SB on S) (ho2 : on < 32) (hp : SB p S) (hp2 : p < 32) (hl : p < on) : ∃ k, k < on ∧ k < 32 ∧ SB k S ∧ p ≤ k ∧ (nI on - 1) &&& nI S = nI k := by
  have A : ∀ S, S < 32 → ∀ on, on < 32 → 1 ≤ on → ((on - 1) &&& S) < on ∧ ((on - 1) &&& S) < 32 ∧ (nI on - 1) &&& nI S = nI ((on - 1) &&& S) := by decide +kernel
  have B : ∀ S, S < 32 → ∀ on, on < 32 → ∀ i, i < 5 → ((on - 1) &&& S).testBit i = true → S.testBit i = true := by decide +kernel
  have E : ∀ S, S < 32 → ∀ p, p < 32 → (∀ i, i < 5 → p.testBit i = true → S.testBit i = true) → p &&& S = p := by decide +kernel
  have C : ∀ S, S < 32 → ∀ on, on < 32 → ∀ p, p < 32 → (decide (p < on) && (on &&& S == on) && (p &&& S == p) && decide (((on - 1) &&& S) < p)) = false := by decide +kernel
  have hC : p ≤ ((on - 1) &&& S) := Nat.le_of_not_lt (fun w => by
    have e1 := E S hS on ho2 ho
    have e2 := E S hS p hp2 hp
    have q := C S hS on ho2 p hp2
    rw [decide_eq_true hl, decide_eq_true w, beq_iff_eq.mpr e1, beq_iff_eq.mpr e2] at q
    exact absurd q (by decide))
  exact ⟨(on - 1) &&& S, (A S hS on ho2 (by omega)).1, (A S hS on ho2 (by omega)).2.1, B S hS on ho2, hC, (A S hS on ho2 (by omega)).2.2⟩
/-- the next set down: every lesser one within S is at most it -/
theorem dn_nx {S on : Nat} (hS : S < 32) (ho : SB on S) (ho2 : on < 32) (h1 : 1 ≤ on) : ∃ k, k < on ∧ SB k S ∧ (∀ p, SB p S → p < on → p ≤ k) ∧ (nI on - 1) &&& nI S = nI k := by
  obtain ⟨k, a1, a2, a3, a4, a5⟩ := dn_le hS ho ho2 (p := 0) (fun i _ q => by rw [Nat.zero_testBit] at q; exact absurd q (by decide)) (by decide) (by omega)
  refine ⟨k, a1, a3, fun p hp hl => ?_, a5⟩
  obtain ⟨k2, b1, b2, b3, b4, b5⟩ := dn_le hS ho ho2 hp (by omega) hl
  rw [a5] at b5
  have := (nI_eq (by omega) (by omega)).mp b5
  omega
theorem SB_self {S : Nat} : SB S S := fun _ _ q => q
/-- dealt out with the first part above on; with on, and the second above tw -/
def zRI (Z : Nat → Nat → Nat → Prop) (A : (Nat → Nat) → Prop) (S on l : Nat) : Prop := l ≤ zM9 ∧ (l < zM9 → ∃ p c : Nat → Nat, zTh S p ∧ (∀ i, i < 3 → Z i (p i) (c i)) ∧ A p ∧ l = c 0 + c 1 + c 2) ∧ ∀ p c : Nat → Nat, zTh S p → (∀ i, i < 3 → Z i (p i) (c i)) → A p → on < p 0 → l ≤ c 0 + c 1 + c 2
def zRJ (Z : Nat → Nat → Nat → Prop) (A : (Nat → Nat) → Prop) (S e on tw l : Nat) : Prop := l ≤ zM9 ∧ (l < zM9 → ∃ p c : Nat → Nat, zTh S p ∧ (∀ i, i < 3 → Z i (p i) (c i)) ∧ A p ∧ l = c 0 + c 1 + c 2) ∧ ∀ p c : Nat → Nat, zTh S p → (∀ i, i < 3 → Z i (p i) (c i)) → A p → (on < p 0 ∨ (p 0 = on ∧ (e = 2 ∨ tw < p 1))) → l ≤ c 0 + c 1 + c 2
/-- what the slots are: the first e are filled, the others empty -/
def zZe (Z : Nat → Nat → Nat → Prop) (e : Nat) : Prop := (∀ i p n, i < e → Z i p n → ¬ p = 0) ∧ ∀ i p n, e ≤ i → Z i p n → p = 0 ∧ n = 0
theorem zZe_sl {g : GG} {r : GR} {D : Nat → Nat → Nat → Nat → Nat → Prop} {j : Nat} {d : Nat → Nat} : zZe (fun i => zSl g r D j i d) (yS r j) := ⟨fun i p n hi h => ((zSl_sv hi).mp h).1, fun i p n hi h => (zSl_no (by omega)).mp h⟩
section
variable {Z : Nat → Nat → Nat → Prop} {A : (Nat → Nat) → Prop} {S e on tw l f : Nat}
theorem zRI_0 (hS : S < 32) (hZ : zZe Z e) (he : 2 ≤ e) (hk : ∀ p, SB p S → p < S → p ≤ on) : zRI Z A S on zM9 := ⟨Nat.le_refl _, fun q => absurd q (Nat.lt_irrefl _), fun p c h1 h2 _ h4 => by
  obtain ⟨a1, a2, a3, a4, a5, a6, a7, a8, a9⟩ := zTh_sb hS h1
  have := hZ.1 1 _ _ (by omega) (h2 1 (by decide))
  have := h1.1
  have := hk _ a4 (by omega)
  omega⟩
theorem zRJ_n (hS : S < 32) (he : ¬ e = 2) (h : zRI Z A S on l) : zRJ Z A S e on 32 l := ⟨h.1, h.2.1, fun p c h1 h2 h3 h4 => h.2.2 p c h1 h2 h3 (by
  have := (zTh_sb hS h1).2.1
  omega)⟩
theorem zRJ_f (hf : zLs zM9 (Z 0 on) f) (hb : zM9 ≤ f) (h : zRI Z A S on l) : zRJ Z A S e on tw l := ⟨h.1, h.2.1, fun p c h1 h2 h3 h4 => by
  have hl := h.1
  rcases h4 with q | ⟨q, -⟩
  · exact h.2.2 p c h1 h2 h3 q
  · have w := h2 0 (by decide)
    rw [q] at w
    have := hf.2.2 _ w
    omega⟩
theorem zRJ_g {tw2 : Nat} (hf : zLs zM9 (Z 0 on) f) (hb : zM9 ≤ f) (h : zRJ Z A S e on tw2 l) : zRJ Z A S e on tw l := ⟨h.1, h.2.1, fun p c h1 h2 h3 h4 => by
  have hl := h.1
  rcases h4 with q | ⟨q, -⟩
  · exact h.2.2 p c h1 h2 h3 (Or.inl q)
  · have w := h2 0 (by decide)
    rw [q] at w
    have := hf.2.2 _ w
    omega⟩
theorem zRJ_2n (hS : S < 32) (hZ : zZe Z 2) (hA : ∀ p c : Nat → Nat, zTh S p → (∀ i, i < 3 → Z i (p i) (c i)) → p 0 = on → p 1 = S - on → ¬ A p) (h : zRI Z A S on l) : zRJ Z A S 2 on 32 l := ⟨h.1, h.2.1, fun p c h1 h2 h3 h4 => by
  rcases h4 with q | ⟨q, -⟩
  · exact h.2.2 p c h1 h2 h3 q
  · have w := (hZ.2 2 _ _ (by decide) (h2 2 (by decide))).1
    have := h1.1
    exact absurd h3 (hA p c h1 h2 q (by omega))⟩
theorem zRJ_2y {x m : Nat} (hS : S < 32) (hZ : zZe Z 2) (ho : SB on S) (ho2 : on < 32) (hf : zLs zM9 (Z 0 on) f) (hx : zLs zM9 (Z 1 (S - on)) x) (hz : Z 2 0 0) (hA : ∀ p, p 0 = on → p 1 = S - on → p 2 = 0 → (∀ i, i < 3 → ∃ n, Z i (p i) n) → A p) (hm : (f + x < l ∧ m = f + x) ∨ (l ≤ f + x ∧ m = l)) (h : zRI Z A S on l) : zRJ Z A S 2 on 32 m := by
  have hl := h.1
  refine ⟨by omega, fun q => ?_, fun p c h1 h2 h3 h4 => ?_⟩
  · rcases hm with ⟨a, b⟩ | ⟨a, b⟩
    · subst b
      have hT := zTh_mk hS ho ho2 (b := S - on) SB_self (by omega)
      have e0 : S - on - (S - on) = 0 := by omega
      have hs : ∀ i, i < 3 → Z i (p3 on (S - on) (S - on - (S - on)) i) (p3 f x 0 i) := fun i hi => by
        rcases (show i = 0 ∨ i = 1 ∨ i = 2 by omega) with e | e | e <;> subst e
        · exact hf.2.1 (by omega)
        · exact hx.2.1 (by omega)
        · show Z 2 (S - on - (S - on)) 0
          rw [e0]; exact hz
      exact ⟨_, p3 f x 0, hT.1, hs, hA _ rfl rfl e0 (fun i hi => ⟨_, hs i hi⟩), rfl⟩
    · rw [b] at q ⊢
      exact h.2.1 q
  · rcases h4 with q | ⟨q, -⟩
    · have := h.2.2 p c h1 h2 h3 q
      omega
    · have w := (hZ.2 2 _ _ (by decide) (h2 2 (by decide))).1
      have := h1.1
      have w0 := h2 0 (by decide)
      have w1 := h2 1 (by decide)
      rw [q] at w0
      rw [show p 1 = S - on by omega] at w1
      have := hf.2.2 _ w0
      have := hx.2.2 _ w1
      omega
theorem zRJ_0 (hS : S < 32) (hZ : zZe Z e) (he : e = 2 ∨ e = 3) (ho : SB on S) (ho2 : on < 32) (hk : ∀ p, SB p (S - on) → p < S - on → p ≤ tw) (h : zRJ Z A S e on 32 l) : zRJ Z A S e on tw l := ⟨h.1, h.2.1, fun p c h1 h2 h3 h4 => h.2.2 p c h1 h2 h3 (by
  rcases h4 with q | ⟨q, q2⟩
  · exact Or.inl q
  · rcases he with e2 | e3
    · exact Or.inr ⟨q, Or.inl e2⟩
    · obtain ⟨a1, a2, a3, a4, a5, a6, a7, a8, a9⟩ := zTh_sb hS h1
      have := hZ.1 2 _ _ (by omega) (h2 2 (by decide))
      rw [q] at a5 a6 a7
      have := hk _ a5 (by omega)
      omega)⟩
theorem zRJ_3n (hS : S < 32) {k : Nat} (hk : ∀ p, SB p (S - on) → p < tw → p ≤ k) (he : e = 3) (hA : ∀ p c : Nat → Nat, zTh S p → (∀ i, i < 3 → Z i (p i) (c i)) → p 0 = on → p 1 = tw → p 2 = S - on - tw → ¬ A p) (h : zRJ Z A S e on tw l) : zRJ Z A S e on k l := ⟨h.1, h.2.1, fun p c h1 h2 h3 h4 => by
  obtain ⟨a1, a2, a3, a4, a5, a6, a7, a8, a9⟩ := zTh_sb hS h1
  rcases h4 with q | ⟨q, q2⟩
  · exact h.2.2 p c h1 h2 h3 (Or.inl q)
  · rw [q] at a5 a6
    rcases Nat.lt_trichotomy tw (p 1) with w | w | w
    · exact h.2.2 p c h1 h2 h3 (Or.inr ⟨q, Or.inr w⟩)
    · exact absurd h3 (hA p c h1 h2 q w.symm (by rw [w]; exact a6))
    · have := hk _ a5 w
      omega⟩
theorem zRJ_3y (hS : S < 32) {k x y m : Nat} (hk : ∀ p, SB p (S - on) → p < tw → p ≤ k) (he : e = 3) (ho : SB on S) (ho2 : on < 32) (ht : SB tw (S - on)) (ht2 : tw < 32) (hf : zLs zM9 (Z 0 on) f) (hx : zLs zM9 (Z 1 tw) x) (hy : zLs zM9 (Z 2 (S - on - tw)) y) (hA : ∀ p, p 0 = on → p 1 = tw → p 2 = S - on - tw → A p) (hm : (f + x + y < l ∧ m = f + x + y) ∨ (l ≤ f + x + y ∧ m = l)) (h : zRJ Z A S e on tw l) : zRJ Z A S e on k m := by
  have hl := h.1
  refine ⟨by omega, fun q => ?_, fun p c h1 h2 h3 h4 => ?_⟩
  · rcases hm with ⟨a, b⟩ | ⟨a, b⟩
    · subst b
      refine ⟨p3 on tw (S - on - tw), p3 f x y, (zTh_mk hS ho ho2 ht ht2).1, fun i hi => ?_, hA _ rfl rfl rfl, rfl⟩
      rcases (show i = 0 ∨ i = 1 ∨ i = 2 by omega) with e | e | e <;> subst e
      · exact hf.2.1 (by omega)
      · exact hx.2.1 (by omega)
      · exact hy.2.1 (by omega)
    · rw [b] at q ⊢
      exact h.2.1 q
  · obtain ⟨a1, a2, a3, a4, a5, a6, a7, a8, a9⟩ := zTh_sb hS h1
    rcases h4 with q | ⟨q, q2⟩
    · have := h.2.2 p c h1 h2 h3 (Or.inl q)
      omega
    · rw [q] at a5 a6
      rcases Nat.lt_trichotomy tw (p 1) with w | w | w
      · have := h.2.2 p c h1 h2 h3 (Or.inr ⟨q, Or.inr w⟩)
        omega
      · have w0 := h2 0 (by decide)
        have w1 := h2 1 (by decide)
        have w2 := h2 2 (by decide)
        rw [q] at w0
        rw [← w] at w1
        rw [a6, ← w] at w2
        have := hf.2.2 _ w0
        have := hx.2.2 _ w1
        have := hy.2.2 _ w2
        omega
      · have := hk _ a5 w
        omega
/-- the next first part -/
theorem zRI_s (hS : S < 32) (hZ : zZe Z e) (he : e = 2 ∨ e = 3) {k : Nat} (hk : ∀ p, SB p S → p < on → p ≤ k) (ht : e = 2 ∨ tw = 0) (h : zRJ Z A S e on tw l) : zRI Z A S k l := ⟨h.1, h.2.1, fun p c h1 h2 h3 h4 => h.2.2 p c h1 h2 h3 (by
  obtain ⟨a1, a2, a3, a4, a5, a6, a7, a8, a9⟩ := zTh_sb hS h1
  rcases Nat.lt_trichotomy on (p 0) with w | w | w
  · exact Or.inl w
  · refine Or.inr ⟨w.symm, ?_⟩
    rcases ht with q | q
    · exact Or.inl q
    · have := hZ.1 1 _ _ (by omega) (h2 1 (by decide))
      exact Or.inr (by omega)
  · have := hk _ a4 w
    omega)⟩
theorem zRI_g (hS : S < 32) {k : Nat} (hk : ∀ p, SB p S → p < on → p ≤ k) (hf : zLs zM9 (Z 0 on) f) (hb : zM9 ≤ f) (h : zRJ Z A S e on tw l) : zRI Z A S k l := ⟨h.1, h.2.1, fun p c h1 h2 h3 h4 => by
  obtain ⟨a1, a2, a3, a4, a5, a6, a7, a8, a9⟩ := zTh_sb hS h1
  have hl := h.1
  rcases Nat.lt_trichotomy on (p 0) with w | w | w
  · exact h.2.2 p c h1 h2 h3 (Or.inl w)
  · have w0 := h2 0 (by decide)
    rw [← w] at w0
    have := hf.2.2 _ w0
    omega
  · have := hk _ a4 w
    omega⟩
theorem zRI_e (hZ : zZe Z e) (he : 1 ≤ e) (h : zRI Z A S 0 l) : zLs zM9 (fun n => ∃ p c : Nat → Nat, zTh S p ∧ (∀ i, i < 3 → Z i (p i) (c i)) ∧ A p ∧ n = c 0 + c 1 + c 2) l := ⟨h.1, h.2.1, fun n q => by
  obtain ⟨p, c, h1, h2, h3, h4⟩ := q
  have := hZ.1 0 _ _ (by omega) (h2 0 (by decide))
  have := h.2.2 p c h1 h2 h3 (by omega)
  omega⟩
end
