/-! a rule of the reference with all classes of its edges -/
def LEn (rg : Nat → Int32) (j k : Nat) : Nat := (lO (rg ((3 * j) + k))).toNatClampNeg
theorem LEn_n {rg : Nat → Int32} {j k w a b : Nat} (h : rg ((3 * j) + k) = nI (100 * w + 10 * a + b)) (hw : w < 5) (ha : a < 4) (hb : b < 4) : LEn rg j k = w := by
  rw [LEn, h, lO_n hw (by omega) (by omega), nI_clamp (by omega)]
theorem dig16 {t k : Nat} (ht : t < 4096) (hk : k < 3) : (nI t >>> (nI (4 * k) &&& 31)) &&& 15 = nI (t / 16 ^ k % 16) := by
  have h1 : nI t >>> (nI (4 * k) &&& 31) = nI (t / 2 ^ (4 * k)) := by
    rcases (show k = 0 ∨ k = 1 ∨ k = 2 by omega) with rfl | rfl | rfl
    · exact pk_shrN (by omega) _ (4 * 0) (by decide)
    · exact pk_shrN (by omega) _ (4 * 1) (by decide)
    · exact pk_shrN (by omega) _ (4 * 2) (by decide)
  rw [h1, show (2 : Nat) ^ (4 * k) = 16 ^ k from by rw [Nat.pow_mul]]
  generalize hx : t / 16 ^ k = x
  have hx2 : x < 4096 := by rw [← hx]; exact Nat.lt_of_le_of_lt (Nat.div_le_self _ _) ht
  apply Int32.toBitVec_inj.mp
  apply BitVec.eq_of_toNat_eq
  have e1 : (nI x &&& 15).toBitVec = (nI x).toBitVec &&& (15 : Int32).toBitVec := rfl
  have e2 : ∀ n, (nI n).toBitVec.toNat = n % 2 ^ 32 := fun n => rfl
  rw [e1, BitVec.toNat_and, e2, e2, show (15 : Int32).toBitVec.toNat = 2 ^ 4 - 1 from rfl, Nat.and_two_pow_sub_one_eq_mod]
  omega
/-- the steps of a rule with the classes that t tells -/
def nwS (la : Nat → Int64) (rg : Nat → Int32) (j t : Nat) : Nat → Int
  | 0 => 1
  | k + 1 => nwS la rg j t k + (la (16 * LEn rg j k + t / 16 ^ k % 16)).toInt
theorem nwS_s {la : Nat → Int64} {rg : Nat → Int32} {j t k w : Nat} {x : Int64} (h : NB x k) (hk : k < 3) (hy : 0 ≤ (la ((16 * w) + t / 16 ^ k % 16)).toInt ∧ (la ((16 * w) + t / 16 ^ k % 16)).toInt ≤ 1152921504606846976) (hx : x.toInt = nwS la rg j t k) (eL : LEn rg j k = w) : (x + la ((16 * w) + t / 16 ^ k % 16)).toInt = nwS la rg j t (k + 1) := by
  obtain ⟨h1, h2⟩ := h
  have e : (x + la ((16 * w) + t / 16 ^ k % 16)).toInt = x.toInt + (la ((16 * w) + t / 16 ^ k % 16)).toInt := by
    rw [Int64.toInt_add]
    exact Int.bmod_eq_of_le (by omega) (by omega)
  rw [e, nwS, eL, hx]
theorem nwS_ge {la : Nat → Int64} {rg : Nat → Int32} {j t e : Nat} (hL : LR la) (hev : ∀ k, k < e → EV 4 (rg (3 * j + k))) : ∀ k, k ≤ e → 1 ≤ nwS la rg j t k ∧ ∀ i, i < k → (la (16 * LEn rg j i + t / 16 ^ i % 16)).toInt ≤ nwS la rg j t k := by
  intro k
  induction k with
  | zero => intro _; exact ⟨Int.le_refl _, fun i hi => absurd hi (by omega)⟩
  | succ k ih =>
    intro hk
    obtain ⟨q1, q2⟩ := ih (by omega)
    obtain ⟨w, a, b, hw, ha, hb, ex⟩ := hev k (by omega)
    have hLe := LEn_n ex hw ha hb
    have hm : t / 16 ^ k % 16 < 16 := Nat.mod_lt _ (by decide)
    have hr := (hL (16 * LEn rg j k + t / 16 ^ k % 16) (by omega)).1
    rw [nwS]
    refine ⟨by omega, fun i hi => ?_⟩
    by_cases e : i = k
    · subst e; omega
    · have := q2 i (by omega); omega
theorem lmN_cg {rg c1 c2 : Nat → Int32} {j : Nat} {s : Int32} : ∀ n, (∀ i, i < n → c1 i = c2 i) → lmN rg c1 j n s = lmN rg c2 j n s := by
  intro n
  induction n with
  | zero => intro _; rfl
  | succ n ih => intro h; rw [lmN, lmN, ih (fun i hi => h i (by omega)), h n (by omega)]
theorem lmR_cg {rg c1 c2 : Nat → Int32} {j e : Nat} {s : Int32} (h : ∀ i, i < e → c1 i = c2 i) : ∀ q, lmR rg c1 j e q s = lmR rg c2 j e q s := by
  intro q
  induction q with
  | zero => rfl
  | succ q ih => rw [lmR, lmR, ih, lmN_cg e h]
theorem icN_cg {rg c1 c2 : Nat → Int32} {j : Nat} {c : Int32} : ∀ n, (∀ i, i < n → c1 i = c2 i) → icN rg c1 j c n = icN rg c2 j c n := by
  intro n
  induction n with
  | zero => intro _; rfl
  | succ n ih => intro h; rw [icN, icN, ih (fun i hi => h i (by omega)), h n (by omega)]
theorem mcb_cg {rg c1 c2 : Nat → Int32} {j e : Nat} (h : ∀ i, i < e → c1 i = c2 i) : ∀ q, mcb rg c1 j e q = mcb rg c2 j e q := by
  intro q
  induction q with
  | zero => rfl
  | succ q ih => rw [mcb, mcb, ih, icN_cg e h]
theorem MKn_cg {rg c1 c2 : Nat → Int32} {j e : Nat} (h : ∀ i, i < e → c1 i = c2 i) : MKn rg c1 j e = MKn rg c2 j e := by
  unfold MKn MKv
  rw [lmR_cg h, lmR_cg h, mcb_cg h]
def MKt (rg : Nat → Int32) (j e t : Nat) : Nat := MKn rg (fun i => nI (t / 16 ^ i % 16)) j e
/-- where the rule's tries stand: nothing has fallen, and none of the first t could; or something has -/
def RLx (S : Nat → Prop) (la lx : Nat → Int64) (rg : Nat → Int32) (j o e t : Nat) (g : Int32) : Prop := (∀ s, s < 80 → (lx s).toInt < 1152921504606846976 → S s) ∧ (∀ s, 48 ≤ s → lx s = la s) ∧ (g = 0 → lx = la ∧ ∀ u, u < t → nwS la rg j u e < 1152921504606846976 → (la (16 * o + MKt rg j e u)).toInt ≤ nwS la rg j u e)
theorem RL_0 {S : Nat → Prop} {la : Nat → Int64} {rg : Nat → Int32} {j o e : Nat} {g : Int32} (h : ∀ s, s < 80 → (la s).toInt < 1152921504606846976 → S s) : RLx S la la rg j o e 0 g := ⟨h, fun _ _ => rfl, fun _ => ⟨rfl, fun u hu => absurd hu (by omega)⟩⟩
theorem RL_n {S : Nat → Prop} {la lx : Nat → Int64} {rg : Nat → Int32} {j o e t k : Nat} {g : Int32} {x : Int64} (h : RLx S la lx rg j o e t g) (hk : k = e) (hx : x.toInt = nwS lx rg j t k) (c : 0 ≤ lg_cmp x 1152921504606846976) : RLx S la lx rg j o e (t + 1) g := by
  rw [lg_cmp_ge] at c
  have c := Int64.le_iff_toInt_le.mp c
  rw [show (1152921504606846976 : Int64).toInt = 1152921504606846976 from by decide] at c
  refine ⟨h.1, h.2.1, fun hg => ?_⟩
  obtain ⟨q1, q2⟩ := h.2.2 hg
  refine ⟨q1, fun u hu hn => ?_⟩
  by_cases e9 : u = t
  · subst e9
    rw [← q1, ← hk, ← hx] at hn
    omega
  · exact q2 u (by omega) hn
theorem RL_y {S : Nat → Prop} {la lx la2 : Nat → Int64} {rg cy : Nat → Int32} {j o e t k : Nat} {g g2 r : Int32} {x : Int64} (h : RLx S la lx rg j o e t g) (hk : k = e) (hx : x.toInt = nwS lx rg j t k) (hcy : ∀ i, i < k → cy i = nI (t / 16 ^ i % 16)) (hL : LR lx) (ho : o < 3) (hev : ∀ k, k < e → EV 4 (rg (3 * j + k))) (hSM : ∀ c : Nat → Nat, (∀ i, i < e → c i < 16 ∧ S (16 * LEn rg j i + c i)) → S (16 * o + MKn rg (fun i => nI (c i)) j e)) (hX : LLx lx la2 ((16 * o) + MKn rg cy j e) x r) (c : ¬ 0 ≤ lg_cmp x 1152921504606846976) (hg : g2 = 0 → r = 0 ∧ g = 0) : RLx S la la2 rg j o e (t + 1) g2 := by
  subst hk
  have hM : MKn rg cy j k = MKt rg j k t := MKn_cg (fun i hi => hcy i hi)
  rw [hM] at hX
  have hM16 : MKt rg j k t < 16 := MKn_lt
  rw [lg_cmp_ge] at c
  have c : x.toInt < 1152921504606846976 := by
    have c2 : ¬ (1152921504606846976 : Int64).toInt ≤ x.toInt := fun q => c (Int64.le_iff_toInt_le.mpr q)
    rw [show (1152921504606846976 : Int64).toInt = 1152921504606846976 from by decide] at c2
    omega
  have hge := nwS_ge (t := t) hL hev k (Nat.le_refl _)
  have hS : S (16 * o + MKt rg j k t) := hSM (fun i => t / 16 ^ i % 16) (fun i hi => ⟨Nat.mod_lt _ (by decide), h.1 _ (by
    obtain ⟨w, a, b, hw, ha, hb, ex⟩ := hev i hi
    have := LEn_n ex hw ha hb
    have : t / 16 ^ i % 16 < 16 := Nat.mod_lt _ (by decide)
    omega) (by have := hge.2 i hi; omega)⟩)
  rcases hX with ⟨rfl, h1, rfl⟩ | ⟨rfl, h1, rfl⟩
  · refine ⟨fun s hs => ?_, fun s hs => ?_, fun q => absurd (hg q).1 (by decide)⟩
    · by_cases e9 : s = 16 * o + MKt rg j k t
      · subst e9; exact fun _ => hS
      · rw [pk_uLn e9]; exact h.1 s hs
    · rw [pk_uLn (by omega)]; exact h.2.1 s hs
  · refine ⟨h.1, h.2.1, fun q => ?_⟩
    obtain ⟨q1, q2⟩ := h.2.2 (hg q).2
    refine ⟨q1, fun u hu hn => ?_⟩
    by_cases e9 : u = t
    · subst e9
      have h2 : ¬ x.toInt < (la2 (16 * o + MKt rg j k u)).toInt := fun z => h1 (Int64.lt_iff_toInt_lt.mpr z)
      rw [← q1, ← hx]
      omega
    · exact q2 u (by omega) hn
/-- the reference's rules, as numbers -/
def mO (ro : Nat → Int32) (j : Nat) : Nat := (ro j).toNatClampNeg
def mT (re rg : Nat → Int32) (j i : Nat) : Nat := if i < (re j).toNatClampNeg then LEn rg j i else 5
def k3f (k0 k1 k2 i : Nat) : Nat := if i = 0 then k0 else if i = 1 then k1 else k2
def mK (re rg : Nat → Int32) (j k0 k1 k2 : Nat) : Nat := MKn rg (fun i => nI (k3f k0 k1 k2 i)) j (re j).toNatClampNeg
def DerM (ro re rg : Nat → Int32) (r : Nat) (s : Nat) : Prop := Der r (mO ro) (mT re rg) (mK re rg) s
theorem DerM_cl {ro re rg : Nat → Int32} {r j o e : Nat} (hj : j < r) (eo : ro j = nI o) (ho : o < 3) (ee : re j = nI e) (he : e ≤ 3) : ∀ c : Nat → Nat, (∀ i, i < e → c i < 16 ∧ DerM ro re rg r (16 * LEn rg j i + c i)) → DerM ro re rg r (16 * o + MKn rg (fun i => nI (c i)) j e) := fun c h => by
  have cl : (re j).toNatClampNeg = e := by rw [ee, nI_clamp (by omega)]
  have ch : ∀ i, i < 3 → (if i < e then c i else 12) < 16 ∧ DerM ro re rg r (mT re rg j i * 16 + (if i < e then c i else 12)) := fun i hi => by
    by_cases q : i < e
    · rw [if_pos q, mT, cl, if_pos q, Nat.mul_comm]
      exact h i q
    · rw [if_neg q, mT, cl, if_neg q]
      exact ⟨by decide, Der_base (Or.inr (Or.inr rfl))⟩
  have q := Der_rule (r := r) (O := mO ro) (T := mT re rg) (K := mK re rg) hj (ch 0 (by decide)).1 (ch 1 (by decide)).1 (ch 2 (by decide)).1 (ch 0 (by decide)).2 (ch 1 (by decide)).2 (ch 2 (by decide)).2
  have e1 : mO ro j = o := by rw [mO, eo, nI_clamp (by omega)]
  have e2 : mK re rg j (if 0 < e then c 0 else 12) (if 1 < e then c 1 else 12) (if 2 < e then c 2 else 12) = MKn rg (fun i => nI (c i)) j e := by
    unfold mK
    rw [cl]
    refine MKn_cg (fun i hi => ?_)
    show nI (k3f _ _ _ i) = nI (c i)
    congr 1
    rcases (show i = 0 ∨ i = 1 ∨ i = 2 by omega) with rfl | rfl | rfl
    · show (if 0 < e then c 0 else 12) = c 0
      rw [if_pos hi]
    · show (if 1 < e then c 1 else 12) = c 1
      rw [if_pos hi]
    · show (if 2 < e then c 2 else 12) = c 2
      rw [if_pos hi]
  rw [e1, e2, Nat.mul_comm] at q
  exact q
def ClM (la : Nat → Int64) (ro re rg : Nat → Int32) (j : Nat) : Prop := ∀ u, u < 16 ^ (re j).toNatClampNeg → nwS la rg j u (re j).toNatClampNeg < 1152921504606846976 → (la (16 * mO ro j + MKt rg j (re j).toNatClampNeg u)).toInt ≤ nwS la rg j u (re j).toNatClampNeg
def MFin (ro re rg : Nat → Int32) (r : Nat) (la : Nat → Int64) : Prop := LR la ∧ (∀ s, s < 80 → (la s).toInt < 1152921504606846976 → DerM ro re rg r s) ∧ (la 57).toInt = 0 ∧ (la 79).toInt = 0 ∧ ∀ j, j < r → ClM la ro re rg j
/-- the table as it is first laid -/
def INg (gg : Nat → Int64) (n : Nat) : Prop := ∀ k, k < n → (gg k).toInt = if k = 57 ∨ k = 79 then 0 else 1152921504606846976
theorem IN_up {gg : Nat → Int64} {i : Nat} {x : Int64} (h : INg gg i) (hx : x.toInt = if i = 57 ∨ i = 79 then 0 else 1152921504606846976) : INg (vp_updL gg i x) (i + 1) := fun k hk => by
  by_cases e : k = i
  · subst e; rw [pk_uLs]; exact hx
  · rw [pk_uLn e]; exact h k (by omega)
theorem in57 : ∀ i, i < 80 → (nI (i % 16) = if nI (i / 16) = 3 then (9 : Int32) else 15) → ¬ nI i < 48 → i = 57 ∨ i = 79 := by decide +kernel
theorem in57' : ∀ i, i < 80 → (i = 57 ∨ i = 79) → (nI (i % 16) = if nI (i / 16) = 3 then (9 : Int32) else 15) ∧ ¬ nI i < 48 := by decide +kernel
theorem IN_0 {gg : Nat → Int64} {i : Nat} (h : INg gg i) (hi : i < 80) (c : ¬ nI i < 48) (c2 : nI (i % 16) = if nI (i / 16) = 3 then (9 : Int32) else 15) : INg (vp_updL gg i 0) (i + 1) := IN_up h (by rw [if_pos (in57 i hi c2 c)]; decide)
theorem IN_a {gg : Nat → Int64} {i : Nat} (h : INg gg i) (hi : i < 80) (c : nI i < 48) : INg (vp_updL gg i 1152921504606846976) (i + 1) := IN_up h (by rw [if_neg (fun q => (in57' i hi q).2 c)]; decide)
theorem IN_b {gg : Nat → Int64} {i : Nat} (h : INg gg i) (hi : i < 80) (c : ¬ nI i < 48) (c2 : ¬ nI (i % 16) = if nI (i / 16) = 3 then (9 : Int32) else 15) : INg (vp_updL gg i 1152921504606846976) (i + 1) := IN_up h (by rw [if_neg (fun q => c2 (in57' i hi q).1)]; decide)
theorem INg_LR {gg : Nat → Int64} (h : INg gg 80) : LR gg := fun k hk => by
  rw [h k hk]
  split <;> decide
def SnM (ro re rg : Nat → Int32) (r : Nat) (la : Nat → Int64) : Prop := (∀ s, s < 80 → (la s).toInt < 1152921504606846976 → DerM ro re rg r s) ∧ (la 57).toInt = 0 ∧ (la 79).toInt = 0
theorem SnM_0 {ro re rg : Nat → Int32} {r : Nat} {gg : Nat → Int64} (h : INg gg 80) : SnM ro re rg r gg := by
  refine ⟨fun s hs q => ?_, ?_, ?_⟩
  · rw [h s hs] at q
    by_cases e : s = 57 ∨ s = 79
    · exact Der_base (by rcases e with e | e; exact Or.inl e; exact Or.inr (Or.inl e))
    · rw [if_neg e] at q; exact absurd q (by decide)
  · rw [h 57 (by decide), if_pos (by decide)]
  · rw [h 79 (by decide), if_pos (by decide)]
/-- a pass over the rules: nothing has fallen and q rules are closed; or something has -/
def PSx (ro re rg : Nat → Int32) (r : Nat) (lx ly : Nat → Int64) (q : Nat) (g : Int32) : Prop := (∀ s, s < 80 → (ly s).toInt < 1152921504606846976 → DerM ro re rg r s) ∧ (∀ s, 48 ≤ s → ly s = lx s) ∧ (g = 0 → ly = lx ∧ ∀ j, j < q → ClM lx ro re rg j)
theorem PS_0 {ro re rg : Nat → Int32} {r : Nat} {lx : Nat → Int64} {g : Int32} (h : SnM ro re rg r lx) : PSx ro re rg r lx lx 0 g := ⟨h.1, fun _ _ => rfl, fun _ => ⟨rfl, fun j hj => absurd hj (by omega)⟩⟩
theorem PS_s {ro re rg : Nat → Int32} {r q o e : Nat} {lx ly la2 : Nat → Int64} {g g2 x : Int32} (h : PSx ro re rg r lx ly q g) (hX : RLx (DerM ro re rg r) ly la2 rg q o e (16 ^ e) x) (eo : ro q = nI o) (ho : o < 3) (ee : re q = nI e) (he : e ≤ 3) (hg : g2 = 0 → x = 0 ∧ g = 0) : PSx ro re rg r lx la2 (q + 1) g2 := by
  refine ⟨hX.1, fun s hs => (hX.2.1 s hs).trans (h.2.1 s hs), fun z => ?_⟩
  obtain ⟨z1, z2⟩ := hg z
  obtain ⟨a1, a2⟩ := hX.2.2 z1
  obtain ⟨b1, b2⟩ := h.2.2 z2
  refine ⟨a1.trans b1, fun j hj => ?_⟩
  by_cases e9 : j = q
  · subst e9
    unfold ClM
    rw [ee, nI_clamp (by omega), mO, eo, nI_clamp (by omega), ← b1]
    exact a2
  · exact b2 j (by omega)
theorem PS_e1 {ro re rg : Nat → Int32} {r q : Nat} {lx ly : Nat → Int64} {g : Int32} (h : PSx ro re rg r lx ly q g) (hS : SnM ro re rg r lx) : SnM ro re rg r ly := ⟨h.1, by rw [h.2.1 57 (by decide)]; exact hS.2.1, by rw [h.2.1 79 (by decide)]; exact hS.2.2⟩
theorem PS_e2 {ro re rg : Nat → Int32} {r q : Nat} {lx ly : Nat → Int64} {g : Int32} (h : PSx ro re rg r lx ly q g) (hq : q = r) : g = 0 → ∀ j, j < r → ClM ly ro re rg j := fun z => by
  obtain ⟨b1, b2⟩ := h.2.2 z
  subst hq
  rw [b1]
  exact b2
theorem MF_of {ro re rg : Nat → Int32} {r : Nat} {la : Nat → Int64} (h1 : LR la) (h2 : SnM ro re rg r la) (h3 : ∀ j, j < r → ClM la ro re rg j) : MFin ro re rg r la := ⟨h1, h2.1, h2.2.1, h2.2.2, h3⟩
def kbM (la : Nat → Int64) (a : Nat) : Nat → Int32
  | 0 => 0
  | i + 1 => kbM la a i ||| (if 0 ≤ lg_cmp (la ((16 * a) + i)) 1152921504606846976 then 0 else (1 : Int32) <<< ((nI i) &&& 31))
def KiM (ro re rg : Nat → Int32) (r : Nat) (p : Int32) (la : Nat → Int64) (x : Int32) : Prop := (wi p 0 2 = 0 ∧ x = -1001) ∨ ∃ a, a < 3 ∧ p = nI a ∧ x = kbM la a 16 ∧ MFin ro re rg r la
