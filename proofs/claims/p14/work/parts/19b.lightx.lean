/-! the lights, as the class finds them -/
theorem l_add {x y : Int64} (hx : 0 ≤ x.toInt ∧ x.toInt ≤ 4611686018427387905) (hy : 0 ≤ y.toInt ∧ y.toInt ≤ 2305843009213693952) : (x + y).toInt = x.toInt + y.toInt := by
  rw [Int64.toInt_add]
  exact Int.bmod_eq_of_le (by omega) (by omega)
/-- numbers in their range, those below the bound are of states in S; what is settled is at most L, the rest at least L -/
def LJ (S : Nat → Prop) (ff : Nat → Int64) (zf : Nat → Int32) (L : Int) : Prop := (∀ s, s < 96 → 0 ≤ (ff s).toInt ∧ (ff s).toInt ≤ 2305843009213693952) ∧ (∀ s, s < 96 → (ff s).toInt < 2305843009213693952 → S s) ∧ (∀ s, s < 96 → ¬ zf s = 0 → (ff s).toInt ≤ L) ∧ (∀ s, s < 96 → zf s = 0 → L ≤ (ff s).toInt) ∧ 0 ≤ L ∧ L < 2305843009213693952
/-- numbers fall; of what is settled none -/
def DEC (ff f2 : Nat → Int64) (zf : Nat → Int32) : Prop := ∀ s, s < 96 → (f2 s).toInt ≤ (ff s).toInt ∧ (¬ zf s = 0 → f2 s = ff s)
theorem DEC_0 {ff : Nat → Int64} {zf : Nat → Int32} : DEC ff ff zf := fun _ _ => ⟨Int.le_refl _, fun _ => rfl⟩
theorem DEC_t {ff f2 f3 : Nat → Int64} {zf : Nat → Int32} (h : DEC ff f2 zf) (h2 : DEC f2 f3 zf) : DEC ff f3 zf := fun s hs => ⟨Int.le_trans (h2 s hs).1 (h s hs).1, fun q => ((h2 s hs).2 q).trans ((h s hs).2 q)⟩
def OfP (ff f2 : Nat → Int64) (s : Nat) (x : Int64) : Prop := (x < ff s ∧ f2 = vp_updL ff s x) ∨ (¬ x < ff s ∧ f2 = ff)
theorem OfP_y {ff : Nat → Int64} {s : Nat} {x : Int64} (c : ¬ 0 ≤ lg_cmp x (ff s)) : OfP ff (vp_updL ff s x) s x := by
  rw [lg_cmp_ge] at c
  exact Or.inl ⟨Int64.not_le.mp c, rfl⟩
theorem OfP_n {ff : Nat → Int64} {s : Nat} {x : Int64} (c : 0 ≤ lg_cmp x (ff s)) : OfP ff ff s x := by
  rw [lg_cmp_ge] at c
  exact Or.inr ⟨Int64.not_lt.mpr c, rfl⟩
theorem off_step {S : Nat → Prop} {ff f2 : Nat → Int64} {zf : Nat → Int32} {L : Int} {s : Nat} {x : Int64} (hJ : LJ S ff zf L) (hs : s < 96) (hx : L < x.toInt) (hS : S s) (h : OfP ff f2 s x) : LJ S f2 zf L ∧ DEC ff f2 zf ∧ (f2 s).toInt ≤ x.toInt := by
  obtain ⟨j1, j2, j3, j4, j5, j6⟩ := hJ
  rcases h with ⟨h1, rfl⟩ | ⟨h1, rfl⟩
  · have h2 : x.toInt < (ff s).toInt := Int64.lt_iff_toInt_lt.mp h1
    have hz : zf s = 0 := by
      by_cases q : zf s = 0
      · exact q
      · have := j3 s hs q; omega
    have hr := (j1 s hs).2
    refine ⟨⟨fun t ht => ?_, fun t ht => ?_, fun t ht q => ?_, fun t ht q => ?_, j5, j6⟩, fun t ht => ?_, ?_⟩
    · by_cases e : t = s
      · subst e; rw [pk_uLs]; exact ⟨by omega, by omega⟩
      · rw [pk_uLn e]; exact j1 t ht
    · by_cases e : t = s
      · subst e; exact fun _ => hS
      · rw [pk_uLn e]; exact j2 t ht
    · by_cases e : t = s
      · subst e; exact absurd hz q
      · rw [pk_uLn e]; exact j3 t ht q
    · by_cases e : t = s
      · subst e; rw [pk_uLs]; omega
      · rw [pk_uLn e]; exact j4 t ht q
    · by_cases e : t = s
      · subst e; rw [pk_uLs]; exact ⟨by omega, fun q => absurd hz q⟩
      · rw [pk_uLn e]; exact ⟨Int.le_refl _, fun _ => rfl⟩
    · rw [pk_uLs]; exact Int.le_refl _
  · refine ⟨⟨j1, j2, j3, j4, j5, j6⟩, DEC_0, ?_⟩
    have : ¬ x.toInt < (f2 s).toInt := fun q => h1 (Int64.lt_iff_toInt_lt.mpr q)
    omega
/-- the lists of what is settled, just as they are -/
def SK (z k c : Nat → Int32) : Prop := SI z k c ∧ (∀ a, a < 6 → ∀ i, i < cz z (a * 16) 16 → ∃ q, q < 16 ∧ k (a * 16 + i) = nI q ∧ ¬ z (a * 16 + q) = 0) ∧ ∀ a, a < 6 → ∀ q, q < 16 → ¬ z (a * 16 + q) = 0 → ∃ i, i < cz z (a * 16) 16 ∧ k (a * 16 + i) = nI q
theorem SK_0 {k : Nat → Int32} : SK (fun _ => 0) k (fun _ => 0) := by
  refine ⟨SI_0, fun l _ i hi => ?_, fun l _ q _ h => absurd rfl h⟩
  rw [cz_zero] at hi
  omega
theorem SK_s {z k c : Nat → Int32} {a b : Nat} (h : SK z k c) (ha : a < 6) (hb : b < 16) (hz : z (a * 16 + b) = 0) : SK (upd z (a * 16 + b) 1) (upd k (a * 16 + cz z (a * 16) 16) (nI b)) (upd c a (nI (cz z (a * 16) 16 + 1))) := by
  have hlt := cz_lt hz 16 hb
  refine ⟨SI_s h.1 ha hb hz, fun l hl i hi => ?_, fun l hl q hq hn => ?_⟩
  · by_cases h9 : l = a
    · subst h9
      rw [cz_in hz 16 hb] at hi
      by_cases h8 : i = cz z (l * 16) 16
      · subst h8
        exact ⟨b, hb, pk_us, by rw [pk_us]; decide⟩
      · rw [pk_un (by omega)]
        obtain ⟨q, q1, q2, q3⟩ := h.2.1 l hl i (by omega)
        refine ⟨q, q1, q2, ?_⟩
        by_cases e : q = b
        · subst e; rw [pk_us]; decide
        · rw [pk_un (by omega)]; exact q3
    · rw [cz_out 16 (by omega)] at hi
      have := cz_le (z := z) (b := l * 16) 16
      rw [pk_un (by omega)]
      obtain ⟨q, q1, q2, q3⟩ := h.2.1 l hl i hi
      exact ⟨q, q1, q2, by rw [pk_un (by omega)]; exact q3⟩
  · by_cases h9 : l = a
    · subst h9
      rw [cz_in hz 16 hb]
      by_cases e : q = b
      · subst e
        exact ⟨_, Nat.lt_succ_self _, pk_us⟩
      · rw [pk_un (by omega)] at hn
        obtain ⟨i, i1, i2⟩ := h.2.2 l hl q hq hn
        exact ⟨i, by omega, by rw [pk_un (by omega)]; exact i2⟩
    · rw [pk_un (by omega)] at hn
      obtain ⟨i, i1, i2⟩ := h.2.2 l hl q hq hn
      have := cz_le (z := z) (b := l * 16) 16
      have hlt2 := cz_lt hz 16 hb
      rw [cz_out 16 (by omega)]
      exact ⟨i, i1, by rw [pk_un (by omega)]; exact i2⟩
/-- the class of a rule's body out of its tables -/
def KFn (x5 x6 : Nat → Int32) (k0 k1 k2 : Nat) : Nat := (x5 (k0 % 4 + 4 * (k1 % 4) + 16 * (k2 % 4))).toNatClampNeg + 4 * (x6 (k0 / 4 + 4 * (k1 / 4) + 16 * (k2 / 4))).toNatClampNeg
theorem kf_w {k0 k1 k2 : Nat} (h0 : k0 < 16) (h1 : k1 < 16) (h2 : k2 < 16) : ((nI k0 &&& 3) ||| ((nI k1 &&& 3) <<< ((2 : Int32) &&& 31))) ||| ((nI k2 &&& 3) <<< ((4 : Int32) &&& 31)) = nI (k0 % 4 + 4 * (k1 % 4) + 16 * (k2 % 4)) := by
  have a : ∀ k, k < 16 → nI k &&& 3 = nI (k % 4) := by decide +kernel
  have b : ∀ i, i < 4 → ∀ j, j < 4 → ∀ k, k < 4 → (nI i ||| (nI j <<< ((2 : Int32) &&& 31))) ||| (nI k <<< ((4 : Int32) &&& 31)) = nI (i + 4 * j + 16 * k) := by decide +kernel
  rw [a k0 h0, a k1 h1, a k2 h2, b _ (by omega) _ (by omega) _ (by omega)]
theorem kf_h {k0 k1 k2 : Nat} (h0 : k0 < 16) (h1 : k1 < 16) (h2 : k2 < 16) : (((nI k0 >>> ((2 : Int32) &&& 31)) &&& 3) ||| (((nI k1 >>> ((2 : Int32) &&& 31)) &&& 3) <<< ((2 : Int32) &&& 31))) ||| (((nI k2 >>> ((2 : Int32) &&& 31)) &&& 3) <<< ((4 : Int32) &&& 31)) = nI (k0 / 4 + 4 * (k1 / 4) + 16 * (k2 / 4)) := by
  have a : ∀ k, k < 16 → (nI k >>> ((2 : Int32) &&& 31)) &&& 3 = nI (k / 4) := by decide +kernel
  have b : ∀ i, i < 4 → ∀ j, j < 4 → ∀ k, k < 4 → (nI i ||| (nI j <<< ((2 : Int32) &&& 31))) ||| (nI k <<< ((4 : Int32) &&& 31)) = nI (i + 4 * j + 16 * k) := by decide +kernel
  rw [a k0 h0, a k1 h1, a k2 h2, b _ (by omega) _ (by omega) _ (by omega)]
theorem kf_r {x y : Int32} (hx : lt4 x) (hy : lt4 y) : x ||| (y <<< ((2 : Int32) &&& 31)) = nI (x.toNatClampNeg + 4 * y.toNatClampNeg) := by
  obtain ⟨i, hi, rfl⟩ := hx
  obtain ⟨j, hj, rfl⟩ := hy
  rw [nI_clamp (by omega), nI_clamp (by omega)]
  have b : ∀ i, i < 4 → ∀ j, j < 4 → nI i ||| (nI j <<< ((2 : Int32) &&& 31)) = nI (i + 4 * j) := by decide +kernel
  exact b i hi j hj
theorem kf_lt {x5 x6 : Nat → Int32} {k0 k1 k2 : Nat} (h0 : k0 < 16) (h1 : k1 < 16) (h2 : k2 < 16) (hw : ∀ j, j < 64 → lt4 (x5 j)) (hu : ∀ j, j < 64 → lt4 (x6 j)) : KFn x5 x6 k0 k1 k2 < 16 := by
  obtain ⟨i, hi, e⟩ := hw (k0 % 4 + 4 * (k1 % 4) + 16 * (k2 % 4)) (by omega)
  obtain ⟨j, hj, e2⟩ := hu (k0 / 4 + 4 * (k1 / 4) + 16 * (k2 / 4)) (by omega)
  unfold KFn
  rw [e, e2, nI_clamp (by omega), nI_clamp (by omega)]
  omega
/-- what has been offered -/
def OFFd (ff fa : Nat → Int64) (o : Nat) (KF : Nat → Nat → Nat → Nat) (t0 t1 t2 : Nat) (P : Nat → Nat → Nat → Prop) : Prop := ∀ k0 k1 k2, k0 < 16 → k1 < 16 → k2 < 16 → P k0 k1 k2 → (fa (o * 16 + KF k0 k1 k2)).toInt ≤ 1 + (ff (t0 * 16 + k0)).toInt + (ff (t1 * 16 + k1)).toInt + (ff (t2 * 16 + k2)).toInt
def inG (b i q : Nat) : Prop := 0 < i ∧ q = b
def inL (kf : Nat → Int32) (t i q : Nat) : Prop := ∃ x, x < i ∧ kf (t * 16 + x) = nI q
def alG (b q : Nat) : Prop := q = b
def alL (zf : Nat → Int32) (t q : Nat) : Prop := ¬ zf (t * 16 + q) = 0
theorem inG_s {b i q : Nat} (h : inG b (i + 1) q) : inG b i q ∨ q = b := Or.inr h.2
theorem inL_s {kf : Nat → Int32} {t i q k : Nat} (hq : q < 16) (hk : k < 16) (e : kf (t * 16 + i) = nI k) (h : inL kf t (i + 1) q) : inL kf t i q ∨ q = k := by
  obtain ⟨x, hx, ex⟩ := h
  rcases Nat.lt_or_ge x i with z | z
  · exact Or.inl ⟨x, z, ex⟩
  · have : x = i := by omega
    subst this
    rw [e] at ex
    exact Or.inr ((nI_eq (by omega) (by omega)).mp ex).symm
theorem inG_a {b q : Nat} (h : alG b q) : inG b 1 q := ⟨by decide, h⟩
theorem inL_a {z k c : Nat → Int32} {t q : Nat} (hS : SK z k c) (ht : t < 6) (hq : q < 16) (h : alL z t q) : inL k t (cz z (t * 16) 16) q := hS.2.2 t ht q hq h
def P1 (I0 : Nat → Nat → Prop) (A1 A2 : Nat → Prop) (i : Nat) (k0 k1 k2 : Nat) : Prop := I0 i k0 ∧ A1 k1 ∧ A2 k2
def P2 (I0 I1 : Nat → Nat → Prop) (A1 A2 : Nat → Prop) (i c0 j : Nat) (k0 k1 k2 : Nat) : Prop := P1 I0 A1 A2 i k0 k1 k2 ∨ (k0 = c0 ∧ I1 j k1 ∧ A2 k2)
def P3 (I0 I1 I2 : Nat → Nat → Prop) (A1 A2 : Nat → Prop) (i c0 j c1 k : Nat) (k0 k1 k2 : Nat) : Prop := P2 I0 I1 A1 A2 i c0 j k0 k1 k2 ∨ (k0 = c0 ∧ k1 = c1 ∧ I2 k k2)
section
variable {ff fa f2 : Nat → Int64} {o t0 t1 t2 : Nat} {KF : Nat → Nat → Nat → Nat} {I0 I1 I2 : Nat → Nat → Prop} {A0 A1 A2 : Nat → Prop} {zf : Nat → Int32} {i j k c0 c1 c2 n0 n1 n2 : Nat}
theorem OFF_0 (h : ∀ q, ¬ I0 0 q) : OFFd ff fa o KF t0 t1 t2 (P1 I0 A1 A2 0) := fun _ _ _ _ _ _ p => absurd p.1 (h _)
theorem OFF_01 (hO : OFFd ff fa o KF t0 t1 t2 (P1 I0 A1 A2 i)) (h : ∀ q, ¬ I1 0 q) : OFFd ff fa o KF t0 t1 t2 (P2 I0 I1 A1 A2 i c0 0) := fun k0 k1 k2 a b c p => by
  rcases p with p | p
  · exact hO k0 k1 k2 a b c p
  · exact absurd p.2.1 (h _)
theorem OFF_02 (hO : OFFd ff fa o KF t0 t1 t2 (P2 I0 I1 A1 A2 i c0 j)) (h : ∀ q, ¬ I2 0 q) : OFFd ff fa o KF t0 t1 t2 (P3 I0 I1 I2 A1 A2 i c0 j c1 0) := fun k0 k1 k2 a b c p => by
  rcases p with p | p
  · exact hO k0 k1 k2 a b c p
  · exact absurd p.2.2 (h _)
theorem OFF_3 (hO : OFFd ff fa o KF t0 t1 t2 (P3 I0 I1 I2 A1 A2 i c0 j c1 k)) (hK : ∀ a b c, a < 16 → b < 16 → c < 16 → o * 16 + KF a b c < 96) (hd : DEC fa f2 zf) (hx : (f2 (o * 16 + KF c0 c1 c2)).toInt ≤ 1 + (ff (t0 * 16 + c0)).toInt + (ff (t1 * 16 + c1)).toInt + (ff (t2 * 16 + c2)).toInt) (hs : ∀ q, q < 16 → I2 (k + 1) q → I2 k q ∨ q = c2) : OFFd ff f2 o KF t0 t1 t2 (P3 I0 I1 I2 A1 A2 i c0 j c1 (k + 1)) := fun k0 k1 k2 a b c p => by
  have dn := (hd _ (hK k0 k1 k2 a b c)).1
  rcases p with p | ⟨rfl, rfl, p⟩
  · exact Int.le_trans dn (hO k0 k1 k2 a b c (Or.inl p))
  · rcases hs k2 c p with q | rfl
    · exact Int.le_trans dn (hO k0 k1 k2 a b c (Or.inr ⟨rfl, rfl, q⟩))
    · exact hx
theorem OFF_2 (hO : OFFd ff fa o KF t0 t1 t2 (P3 I0 I1 I2 A1 A2 i c0 j c1 n2)) (hall : ∀ q, q < 16 → A2 q → I2 n2 q) (hs : ∀ q, q < 16 → I1 (j + 1) q → I1 j q ∨ q = c1) : OFFd ff fa o KF t0 t1 t2 (P2 I0 I1 A1 A2 i c0 (j + 1)) := fun k0 k1 k2 a b c p => by
  refine hO k0 k1 k2 a b c ?_
  rcases p with p | ⟨rfl, p, p2⟩
  · exact Or.inl (Or.inl p)
  · rcases hs k1 b p with q | rfl
    · exact Or.inl (Or.inr ⟨rfl, q, p2⟩)
    · exact Or.inr ⟨rfl, rfl, hall k2 c p2⟩
theorem OFF_1 (hO : OFFd ff fa o KF t0 t1 t2 (P2 I0 I1 A1 A2 i c0 n1)) (hall : ∀ q, q < 16 → A1 q → I1 n1 q) (hs : ∀ q, q < 16 → I0 (i + 1) q → I0 i q ∨ q = c0) : OFFd ff fa o KF t0 t1 t2 (P1 I0 A1 A2 (i + 1)) := fun k0 k1 k2 a b c p => by
  refine hO k0 k1 k2 a b c ?_
  obtain ⟨p1, p2, p3⟩ := p
  rcases hs k0 a p1 with q | rfl
  · exact Or.inl ⟨q, p2, p3⟩
  · exact Or.inr ⟨rfl, hall k1 b p2, p3⟩
theorem OFF_e (hO : OFFd ff fa o KF t0 t1 t2 (P1 I0 A1 A2 n0)) (hall : ∀ q, q < 16 → A0 q → I0 n0 q) : OFFd ff fa o KF t0 t1 t2 (fun k0 k1 k2 => A0 k0 ∧ A1 k1 ∧ A2 k2) := fun k0 k1 k2 a b c p => hO k0 k1 k2 a b c ⟨hall k0 a p.1, p.2⟩
end
theorem inG_0 {b q : Nat} : ¬ inG b 0 q := fun h => absurd h.1 (by decide)
theorem inL_0 {kf : Nat → Int32} {t q : Nat} : ¬ inL kf t 0 q := fun h => by
  obtain ⟨x, hx, _⟩ := h
  omega
/-- the nearest state that isn't settled -/
def NRx (ff : Nat → Int64) (zf : Nat → Int32) (n : Nat) (r : Int32) (le : Int64) : Prop := (r = -1 ∧ le.toInt = 2305843009213693952 ∧ ∀ k, k < n → zf k = 0 → 2305843009213693952 ≤ (ff k).toInt) ∨ ∃ k, k < n ∧ r = nI k ∧ le = ff k ∧ zf k = 0 ∧ (ff k).toInt < 2305843009213693952 ∧ ∀ j, j < n → zf j = 0 → (ff k).toInt ≤ (ff j).toInt
theorem NRx_z {ff : Nat → Int64} {zf : Nat → Int32} {n : Nat} {r : Int32} {le : Int64} (h : NRx ff zf n r le) (hz : ¬ zf n = 0) : NRx ff zf (n + 1) r le := by
  rcases h with ⟨h1, h2, h3⟩ | ⟨k, h1, h2, h3, h4, h5, h6⟩
  · refine Or.inl ⟨h1, h2, fun k hk q => ?_⟩
    by_cases e : k = n
    · subst e; exact absurd q hz
    · exact h3 k (by omega) q
  · refine Or.inr ⟨k, by omega, h2, h3, h4, h5, fun j hj q => ?_⟩
    by_cases e : j = n
    · subst e; exact absurd q hz
    · exact h6 j (by omega) q
theorem NRx_g {ff : Nat → Int64} {zf : Nat → Int32} {n : Nat} {r : Int32} {le : Int64} (h : NRx ff zf n r le) (hc : 0 ≤ lg_cmp (ff n) le) : NRx ff zf (n + 1) r le := by
  rw [lg_cmp_ge] at hc
  have hc := Int64.le_iff_toInt_le.mp hc
  rcases h with ⟨h1, h2, h3⟩ | ⟨k, h1, h2, h3, h4, h5, h6⟩
  · refine Or.inl ⟨h1, h2, fun k hk q => ?_⟩
    by_cases e : k = n
    · subst e; omega
    · exact h3 k (by omega) q
  · refine Or.inr ⟨k, by omega, h2, h3, h4, h5, fun j hj q => ?_⟩
    by_cases e : j = n
    · subst e; rw [h3] at hc; exact hc
    · exact h6 j (by omega) q
theorem NRx_l {ff : Nat → Int64} {zf : Nat → Int32} {n : Nat} {r : Int32} {le : Int64} (h : NRx ff zf n r le) (hz : zf n = 0) (hc : ¬ 0 ≤ lg_cmp (ff n) le) : NRx ff zf (n + 1) (nI n) (ff n) := by
  rw [lg_cmp_ge] at hc
  have hc : ¬ le.toInt ≤ (ff n).toInt := fun q => hc (Int64.le_iff_toInt_le.mpr q)
  rcases h with ⟨h1, h2, h3⟩ | ⟨k, h1, h2, h3, h4, h5, h6⟩
  · refine Or.inr ⟨n, by omega, rfl, rfl, hz, by omega, fun j hj q => ?_⟩
    by_cases e : j = n
    · subst e; exact Int.le_refl _
    · have := h3 j (by omega) q; omega
  · rw [h3] at hc
    refine Or.inr ⟨n, by omega, rfl, rfl, hz, by omega, fun j hj q => ?_⟩
    by_cases e : j = n
    · subst e; exact Int.le_refl _
    · have := h6 j (by omega) q; omega
theorem up_f {g f : Nat → Int32} {i : Nat} (h : ∀ j, j < i → g j = f j) : ∀ j, j < i + 1 → upd g i (f i) j = f j := fun j hj => by
  by_cases e : j = i
  · subst e; exact pk_us
  · rw [pk_un e]; exact h j (by omega)
theorem up_P {P : Nat → Int32 → Prop} {g : Nat → Int32} {i : Nat} {x : Int32} (h : ∀ j, j < i → P j (g j)) (hx : P i x) : ∀ j, j < i + 1 → P j (upd g i x j) := fun j hj => by
  by_cases e : j = i
  · subst e; rw [pk_us]; exact hx
  · rw [pk_un e]; exact h j (by omega)
/-- a rule that was read, with its tables -/
def RNx (pf : Nat → Int32) (z : Nat) (t : RT) : Prop := RNew pf z t ∧ (∀ j, j < 64 → t.2.2.2.2.2.2.1 j = wyF (nI j) t.2.2.2.1 t.2.2.2.2.1 ((z - 2) / 3) (ndN pf z)) ∧ ∀ j, j < 64 → HUq (nI j) t.2.2.2.1 t.2.2.2.2.1 ((z - 2) / 3) (2 ^ (ndN pf z - 1)) (t.2.2.2.2.2.2.2 j)
theorem LJ.S0 {S : Nat → Prop} {ff : Nat → Int64} {zf : Nat → Int32} {L : Int} {s : Nat} (h : LJ S ff zf L) (hs : s < 96) (hz : ¬ zf s = 0) : S s := h.2.1 s hs (by have := h.2.2.1 s hs hz; have := h.2.2.2.2.2; omega)
theorem tw_ok {S : Nat → Prop} {ff fb : Nat → Int64} {zf : Nat → Int32} {L : Int} {a0 a1 : Nat} (hJ : LJ S ff zf L) (hD : DEC ff fb zf) (h0 : a0 < 96) (h1 : a1 < 96) (z0 : ¬ zf a0 = 0) (z1 : ¬ zf a1 = 0) : ((1 + fb a0) + fb a1).toInt = 1 + (ff a0).toInt + (ff a1).toInt := by
  rw [(hD a0 h0).2 z0, (hD a1 h1).2 z1]
  have r0 := hJ.1 a0 h0
  have r1 := hJ.1 a1 h1
  have o1 : (1 : Int64).toInt = 1 := by decide
  have e1 : (1 + ff a0).toInt = 1 + (ff a0).toInt := by rw [l_add (by omega) r0, o1]
  rw [l_add (by omega) r1, e1]
theorem cmb_step {S : Nat → Prop} {ff fc f2 : Nat → Int64} {zf : Nat → Int32} {L : Int} {tw : Int64} {a0 a1 a2 s : Nat} (hJ : LJ S ff zf L) (hJc : LJ S fc zf L) (hDc : DEC ff fc zf) (h0 : a0 < 96) (h1 : a1 < 96) (h2 : a2 < 96) (z0 : ¬ zf a0 = 0) (z1 : ¬ zf a1 = 0) (z2 : ¬ zf a2 = 0) (htw : tw.toInt = 1 + (ff a0).toInt + (ff a1).toInt) (hL : (ff a0).toInt = L ∨ (ff a1).toInt = L ∨ (ff a2).toInt = L) (hs : s < 96) (hS : S s) (hOf : OfP fc f2 s (tw + fc a2)) : LJ S f2 zf L ∧ DEC fc f2 zf ∧ (f2 s).toInt ≤ 1 + (ff a0).toInt + (ff a1).toInt + (ff a2).toInt := by
  have r0 := hJ.1 a0 h0
  have r1 := hJ.1 a1 h1
  have r2 := hJ.1 a2 h2
  rw [(hDc a2 h2).2 z2] at hOf
  have e : (tw + ff a2).toInt = tw.toInt + (ff a2).toInt := l_add (by omega) r2
  obtain ⟨q1, q2, q3⟩ := off_step hJc hs (by rw [e, htw]; omega) hS hOf
  exact ⟨q1, q2, by rw [e, htw] at q3; omega⟩
def SPP (n : Nat) (zf : Nat → Int32) (t0 t1 t2 a b k0 k1 k2 : Nat) : Prop := (alL zf t0 k0 ∧ alL zf t1 k1 ∧ alL zf t2 k2) ∧ ((0 < n ∧ t0 = a ∧ k0 = b) ∨ (1 < n ∧ t1 = a ∧ k1 = b) ∨ (2 < n ∧ t2 = a ∧ k2 = b))
section
variable {ff F F2 : Nat → Int64} {zf : Nat → Int32} {o t0 t1 t2 a b : Nat} {KF : Nat → Nat → Nat → Nat}
theorem SP_0 : OFFd ff F o KF t0 t1 t2 (SPP 0 zf t0 t1 t2 a b) := fun _ _ _ _ _ _ p => by
  rcases p.2 with q | q | q <;> omega
theorem SP_n0 (hn : ¬ t0 = a) (h : OFFd ff F o KF t0 t1 t2 (SPP 0 zf t0 t1 t2 a b)) : OFFd ff F o KF t0 t1 t2 (SPP 1 zf t0 t1 t2 a b) := fun _ _ _ _ _ _ p => by
  rcases p.2 with q | q | q
  · exact absurd q.2.1 hn
  · omega
  · omega
theorem SP_n1 (hn : ¬ t1 = a) (h : OFFd ff F o KF t0 t1 t2 (SPP 1 zf t0 t1 t2 a b)) : OFFd ff F o KF t0 t1 t2 (SPP 2 zf t0 t1 t2 a b) := fun k0 k1 k2 h0 h1 h2 p => h k0 k1 k2 h0 h1 h2 ⟨p.1, by
  rcases p.2 with q | q | q
  · exact Or.inl ⟨by decide, q.2⟩
  · exact absurd q.2.1 hn
  · omega⟩
theorem SP_n2 (hn : ¬ t2 = a) (h : OFFd ff F o KF t0 t1 t2 (SPP 2 zf t0 t1 t2 a b)) : OFFd ff F o KF t0 t1 t2 (SPP 3 zf t0 t1 t2 a b) := fun k0 k1 k2 h0 h1 h2 p => h k0 k1 k2 h0 h1 h2 ⟨p.1, by
  rcases p.2 with q | q | q
  · exact Or.inl ⟨by decide, q.2⟩
  · exact Or.inr (Or.inl ⟨by decide, q.2⟩)
  · exact absurd q.2.1 hn⟩
theorem OFF_bs {P : Nat → Nat → Nat → Prop} (h0t : t0 < 6) (h1t : t1 < 6) (h2t : t2 < 6) (hD : DEC ff F zf) (hp : ∀ k0 k1 k2, P k0 k1 k2 → alL zf t0 k0 ∧ alL zf t1 k1 ∧ alL zf t2 k2) (h : OFFd F F2 o KF t0 t1 t2 P) : OFFd ff F2 o KF t0 t1 t2 P := fun k0 k1 k2 h0 h1 h2 p => by
  have q := h k0 k1 k2 h0 h1 h2 p
  obtain ⟨z0, z1, z2⟩ := hp k0 k1 k2 p
  rw [(hD _ (by omega)).2 z0, (hD _ (by omega)).2 z1, (hD _ (by omega)).2 z2] at q
  exact q
theorem SP_y0 (h0t : t0 < 6) (h1t : t1 < 6) (h2t : t2 < 6) (hD : DEC ff F zf) (hK : ∀ a b c, a < 16 → b < 16 → c < 16 → o * 16 + KF a b c < 96) (et : t0 = a) (hO : OFFd ff F o KF t0 t1 t2 (SPP 0 zf t0 t1 t2 a b)) (hd : DEC F F2 zf) (hz : alL zf t0 b) (h2 : OFFd F F2 o KF t0 t1 t2 (fun k0 k1 k2 => alG b k0 ∧ alL zf t1 k1 ∧ alL zf t2 k2)) : OFFd ff F2 o KF t0 t1 t2 (SPP 1 zf t0 t1 t2 a b) := fun k0 k1 k2 a0 a1 a2 p => by
  rcases p.2 with q | q | q
  · exact OFF_bs h0t h1t h2t hD (fun x y z w => ⟨by rw [show x = b from w.1]; exact hz, w.2⟩) h2 k0 k1 k2 a0 a1 a2 ⟨q.2.2, p.1.2⟩
  · omega
  · omega
theorem SP_y1 (h0t : t0 < 6) (h1t : t1 < 6) (h2t : t2 < 6) (hD : DEC ff F zf) (hK : ∀ a b c, a < 16 → b < 16 → c < 16 → o * 16 + KF a b c < 96) (et : t1 = a) (hO : OFFd ff F o KF t0 t1 t2 (SPP 1 zf t0 t1 t2 a b)) (hd : DEC F F2 zf) (hz : alL zf t1 b) (h2 : OFFd F F2 o KF t0 t1 t2 (fun k0 k1 k2 => alL zf t0 k0 ∧ alG b k1 ∧ alL zf t2 k2)) : OFFd ff F2 o KF t0 t1 t2 (SPP 2 zf t0 t1 t2 a b) := fun k0 k1 k2 a0 a1 a2 p => by
  rcases p.2 with q | q | q
  · exact Int.le_trans (hd _ (hK k0 k1 k2 a0 a1 a2)).1 (hO k0 k1 k2 a0 a1 a2 ⟨p.1, Or.inl ⟨by decide, q.2⟩⟩)
  · exact OFF_bs h0t h1t h2t hD (fun x y z w => ⟨w.1, by rw [show y = b from w.2.1]; exact hz, w.2.2⟩) h2 k0 k1 k2 a0 a1 a2 ⟨p.1.1, q.2.2, p.1.2.2⟩
  · omega
theorem SP_y2 (h0t : t0 < 6) (h1t : t1 < 6) (h2t : t2 < 6) (hD : DEC ff F zf) (hK : ∀ a b c, a < 16 → b < 16 → c < 16 → o * 16 + KF a b c < 96) (et : t2 = a) (hO : OFFd ff F o KF t0 t1 t2 (SPP 2 zf t0 t1 t2 a b)) (hd : DEC F F2 zf) (hz : alL zf t2 b) (h2 : OFFd F F2 o KF t0 t1 t2 (fun k0 k1 k2 => alL zf t0 k0 ∧ alL zf t1 k1 ∧ alG b k2)) : OFFd ff F2 o KF t0 t1 t2 (SPP 3 zf t0 t1 t2 a b) := fun k0 k1 k2 a0 a1 a2 p => by
  rcases p.2 with q | q | q
  · exact Int.le_trans (hd _ (hK k0 k1 k2 a0 a1 a2)).1 (hO k0 k1 k2 a0 a1 a2 ⟨p.1, Or.inl ⟨by decide, q.2⟩⟩)
  · exact Int.le_trans (hd _ (hK k0 k1 k2 a0 a1 a2)).1 (hO k0 k1 k2 a0 a1 a2 ⟨p.1, Or.inr (Or.inl ⟨by decide, q.2⟩)⟩)
  · exact OFF_bs h0t h1t h2t hD (fun x y z w => ⟨w.1, w.2.1, by rw [show z = b from w.2.2]; exact hz⟩) h2 k0 k1 k2 a0 a1 a2 ⟨p.1.1, p.1.2.1, q.2.2⟩
end
/-- the rules, as numbers -/
def cO (ρ : Nat → RT) (j : Nat) : Nat := ((ρ j).2.1.1).toNatClampNeg
def cT (ρ : Nat → RT) (j i : Nat) : Nat := ((ρ j).2.2.2.2.2.1 i).toNatClampNeg
def cK (ρ : Nat → RT) (j k0 k1 k2 : Nat) : Nat := KFn (ρ j).2.2.2.2.2.2.1 (ρ j).2.2.2.2.2.2.2 k0 k1 k2
def Bas (f : Nat → Int64) : Prop := (f 57).toInt = 0 ∧ (f 79).toInt = 0 ∧ (f 92).toInt = 0
def CJ (ρ : Nat → RT) (ff fa : Nat → Int64) (j : Nat) (P : Nat → Nat → Nat → Prop) : Prop := OFFd ff fa (cO ρ j) (cK ρ j) (cT ρ j 0) (cT ρ j 1) (cT ρ j 2) P
def LCl (ρ : Nat → RT) (r : Nat) (f : Nat → Int64) (z : Nat → Int32) : Prop := ∀ j, j < r → CJ ρ f f j (fun k0 k1 k2 => alL z (cT ρ j 0) k0 ∧ alL z (cT ρ j 1) k1 ∧ alL z (cT ρ j 2) k2)
def LFin (ρ : Nat → RT) (r : Nat) (f : Nat → Int64) : Prop := (∀ s, s < 96 → 0 ≤ (f s).toInt ∧ (f s).toInt ≤ 2305843009213693952) ∧ (∀ s, s < 96 → (f s).toInt < 2305843009213693952 → Der r (cO ρ) (cT ρ) (cK ρ) s) ∧ Bas f ∧ ∀ j, j < r → CJ ρ f f j (fun k0 k1 k2 => (f (cT ρ j 0 * 16 + k0)).toInt < 2305843009213693952 ∧ (f (cT ρ j 1 * 16 + k1)).toInt < 2305843009213693952 ∧ (f (cT ρ j 2 * 16 + k2)).toInt < 2305843009213693952)
theorem LJ_0 {S : Nat → Prop} {f1 f2 f3 : Nat → Int64} (hS : ∀ {s : Nat}, s = 57 ∨ s = 79 ∨ s = 92 → S s) (h1 : OfP (fun _ => 2305843009213693952) f1 ((3 * 16) + 9) 0) (h2 : OfP f1 f2 ((4 * 16) + 15) 0) (h3 : OfP f2 f3 ((5 * 16) + 12) 0) : LJ S f3 (fun _ => 0) 0 ∧ Bas f3 := by
  have lt0 : (0 : Int64) < 2305843009213693952 := by decide
  rcases h1 with ⟨-, rfl⟩ | ⟨q, -⟩
  · rcases h2 with ⟨-, rfl⟩ | ⟨q, -⟩
    · rcases h3 with ⟨-, rfl⟩ | ⟨q, -⟩
      · have nv : (2305843009213693952 : Int64).toInt = 2305843009213693952 := by decide
        have z0 : (0 : Int64).toInt = 0 := by decide
        have key : ∀ s, ((vp_updL (vp_updL (vp_updL (fun _ => (2305843009213693952 : Int64)) ((3 * 16) + 9) 0) ((4 * 16) + 15) 0) ((5 * 16) + 12) 0) s).toInt = if s = 57 ∨ s = 79 ∨ s = 92 then 0 else 2305843009213693952 := fun s => by
          by_cases e : s = (5 * 16) + 12
          · rw [e, pk_uLs, z0, if_pos (by decide)]
          · rw [pk_uLn e]
            by_cases e2 : s = (4 * 16) + 15
            · rw [e2, pk_uLs, z0, if_pos (by decide)]
            · rw [pk_uLn e2]
              by_cases e3 : s = (3 * 16) + 9
              · rw [e3, pk_uLs, z0, if_pos (by decide)]
              · rw [pk_uLn e3, nv, if_neg (by omega)]
        refine ⟨⟨fun s _ => ?_, fun s _ q => ?_, fun s _ q => absurd rfl q, fun s _ _ => ?_, Int.le_refl _, by decide⟩, ?_, ?_, ?_⟩
        · rw [key]; split <;> decide
        · rw [key] at q
          by_cases e : s = 57 ∨ s = 79 ∨ s = 92
          · exact hS e
          · rw [if_neg e] at q; exact absurd q (by decide)
        · rw [key]; split <;> decide
        · rw [key, if_pos (by decide)]
        · rw [key, if_pos (by decide)]
        · rw [key, if_pos (by decide)]
      · refine absurd ?_ q
        rw [pk_uLn (by decide), pk_uLn (by decide)]; exact lt0
    · refine absurd ?_ q
      rw [pk_uLn (by decide)]; exact lt0
  · exact absurd lt0 q
theorem NRx_of {ff : Nat → Int64} {zf : Nat → Int32} {r : Int32} (h : ∃ le, NRx ff zf 96 r le) (c : ¬ r = -1) : ∃ k, k < 96 ∧ r = nI k ∧ zf k = 0 ∧ (ff k).toInt < 2305843009213693952 ∧ ∀ j, j < 96 → zf j = 0 → (ff k).toInt ≤ (ff j).toInt := by
  obtain ⟨le, h⟩ := h
  rcases h with ⟨h1, -⟩ | ⟨k, h1, h2, -, h4, h5, h6⟩
  · exact absurd h1 c
  · exact ⟨k, h1, h2, h4, h5, h6⟩
theorem LJ_pick {S : Nat → Prop} {ff : Nat → Int64} {zf : Nat → Int32} {k : Nat} (h : ∃ L, LJ S ff zf L) (hk : k < 96) (hz : zf k = 0) (hl : (ff k).toInt < 2305843009213693952) (hm : ∀ j, j < 96 → zf j = 0 → (ff k).toInt ≤ (ff j).toInt) : LJ S ff zf (ff k).toInt := by
  obtain ⟨L, j1, j2, j3, j4, j5, j6⟩ := h
  have := j4 k hk hz
  exact ⟨j1, j2, fun s hs q => by have := j3 s hs q; omega, hm, (j1 k hk).1, hl⟩
theorem dm16 (n : Nat) : n / 16 * 16 + n % 16 = n := by omega
theorem LJ_set {S : Nat → Prop} {ff : Nat → Int64} {zf : Nat → Int32} {k : Nat} (h : LJ S ff zf (ff k).toInt) (hk : k < 96) : LJ S ff (upd zf (k / 16 * 16 + k % 16) 1) (ff k).toInt := by
  rw [dm16]
  obtain ⟨j1, j2, j3, j4, j5, j6⟩ := h
  refine ⟨j1, j2, fun s hs q => ?_, fun s hs q => ?_, j5, j6⟩
  · by_cases e : s = k
    · subst e; exact Int.le_refl _
    · rw [pk_un e] at q; exact j3 s hs q
  · by_cases e : s = k
    · subst e; exact Int.le_refl _
    · rw [pk_un e] at q; exact j4 s hs q
theorem st_z {zf : Nat → Int32} (n : Nat) : ¬ upd zf (n / 16 * 16 + n % 16) 1 ((n / 16 * 16) + n % 16) = 0 := by rw [pk_us]; decide
theorem st_L {fa fb : Nat → Int64} {zf : Nat → Int32} {n : Nat} (hD : DEC fa fb (upd zf (n / 16 * 16 + n % 16) 1)) (hn : n < 96) : (fb ((n / 16 * 16) + n % 16)).toInt = (fa n).toInt := by
  rw [(hD _ (by omega)).2 (st_z n), dm16]
theorem cO_n {ρ : Nat → RT} {j o : Nat} (h : (ρ j).2.1.1 = nI o) (ho : o < 3) : cO ρ j = o := by rw [cO, h, nI_clamp (by omega)]
theorem cT_n {ρ : Nat → RT} {j i t : Nat} (h : (ρ j).2.2.2.2.2.1 i = nI t) (ht : t < 6) : cT ρ j i = t := by rw [cT, h, nI_clamp (by omega)]
theorem Der_cl {ρ : Nat → RT} {r j o t0 t1 t2 : Nat} (hj : j < r) (eo : (ρ j).2.1.1 = nI o) (ho : o < 3) (e0 : (ρ j).2.2.2.2.2.1 0 = nI t0) (h0 : t0 < 6) (e1 : (ρ j).2.2.2.2.2.1 1 = nI t1) (h1 : t1 < 6) (e2 : (ρ j).2.2.2.2.2.1 2 = nI t2) (h2 : t2 < 6) : ∀ k0 k1 k2, k0 < 16 → k1 < 16 → k2 < 16 → Der r (cO ρ) (cT ρ) (cK ρ) (t0 * 16 + k0) → Der r (cO ρ) (cT ρ) (cK ρ) (t1 * 16 + k1) → Der r (cO ρ) (cT ρ) (cK ρ) (t2 * 16 + k2) → Der r (cO ρ) (cT ρ) (cK ρ) (o * 16 + KFn (ρ j).2.2.2.2.2.2.1 (ρ j).2.2.2.2.2.2.2 k0 k1 k2) := fun k0 k1 k2 a0 a1 a2 d0 d1 d2 => by
  have q := Der_rule (r := r) (O := cO ρ) (T := cT ρ) (K := cK ρ) hj a0 a1 a2 (by rw [cT_n e0 h0]; exact d0) (by rw [cT_n e1 h1]; exact d1) (by rw [cT_n e2 h2]; exact d2)
  rw [cO_n eo ho] at q
  exact q
theorem cK_lt {ρ : Nat → RT} {r j : Nat} (hB : BI ρ r) (hj : j < r) : ∀ a b c, a < 16 → b < 16 → c < 16 → cO ρ j * 16 + cK ρ j a b c < 96 := fun a b c ha hb hc => by
  obtain ⟨⟨o, ho, eo⟩, -, -, -, -, hw, hu⟩ := hB j hj
  have := kf_lt ha hb hc hw hu
  rw [cO_n eo ho]
  show o * 16 + KFn _ _ a b c < 96
  omega
theorem cT_lt {ρ : Nat → RT} {r j i : Nat} (hB : BI ρ r) (hj : j < r) (hi : i < 3) : cT ρ j i < 6 := by
  obtain ⟨-, -, -, hs, -⟩ := hB j hj
  obtain ⟨q, hq, e⟩ := hs i hi
  rw [cT_n e hq]; exact hq
theorem OFF_nx {ρ : Nat → RT} {fa fb f5 : Nat → Int64} {z : Nat → Int32} {r q o t0 t1 t2 a b : Nat} (hB : BI ρ r) (hq : q < r) (eo : (ρ q).2.1.1 = nI o) (ho : o < 3) (e0 : (ρ q).2.2.2.2.2.1 0 = nI t0) (h0 : t0 < 6) (e1 : (ρ q).2.2.2.2.2.1 1 = nI t1) (h1 : t1 < 6) (e2 : (ρ q).2.2.2.2.2.1 2 = nI t2) (h2 : t2 < 6) (hD : DEC fa fb z) (hD5 : DEC fb f5 z)
    (hO : ∀ j, j < q → OFFd fa fb (cO ρ j) (cK ρ j) (cT ρ j 0) (cT ρ j 1) (cT ρ j 2) (SPP 3 z (cT ρ j 0) (cT ρ j 1) (cT ρ j 2) a b)) (hO5 : OFFd fb f5 o (KFn (ρ q).2.2.2.2.2.2.1 (ρ q).2.2.2.2.2.2.2) t0 t1 t2 (SPP 3 z t0 t1 t2 a b)) : ∀ j, j < q + 1 → OFFd fa f5 (cO ρ j) (cK ρ j) (cT ρ j 0) (cT ρ j 1) (cT ρ j 2) (SPP 3 z (cT ρ j 0) (cT ρ j 1) (cT ρ j 2) a b) := fun j hj => by
  by_cases e : j = q
  · subst e
    rw [cO_n eo ho, cT_n e0 h0, cT_n e1 h1, cT_n e2 h2]
    exact OFF_bs h0 h1 h2 hD (fun _ _ _ p => p.1) hO5
  · intro k0 k1 k2 a0 a1 a2 p
    exact Int.le_trans (hD5 _ (cK_lt hB (by omega) k0 k1 k2 a0 a1 a2)).1 (hO j (by omega) k0 k1 k2 a0 a1 a2 p)
theorem LCl_0 {ρ : Nat → RT} {r : Nat} {f : Nat → Int64} : LCl ρ r f (fun _ => 0) := fun _ _ _ _ _ _ _ _ p => absurd rfl p.1
theorem LCl_s {ρ : Nat → RT} {fa fb : Nat → Int64} {z : Nat → Int32} {r q s : Nat} (hB : BI ρ r) (hs : s < 96) (hq : q = r) (hC : LCl ρ r fa z) (hD : DEC fa fb (upd z (s / 16 * 16 + s % 16) 1)) (hO : ∀ j, j < q → OFFd fa fb (cO ρ j) (cK ρ j) (cT ρ j 0) (cT ρ j 1) (cT ρ j 2) (SPP 3 (upd z (s / 16 * 16 + s % 16) 1) (cT ρ j 0) (cT ρ j 1) (cT ρ j 2) (s / 16) (s % 16))) : LCl ρ r fb (upd z (s / 16 * 16 + s % 16) 1) := fun j hj k0 k1 k2 a0 a1 a2 p => by
  have l0 := cT_lt hB hj (i := 0) (by decide)
  have l1 := cT_lt hB hj (i := 1) (by decide)
  have l2 := cT_lt hB hj (i := 2) (by decide)
  rw [(hD _ (by omega)).2 p.1, (hD _ (by omega)).2 p.2.1, (hD _ (by omega)).2 p.2.2]
  by_cases n0 : cT ρ j 0 = s / 16 ∧ k0 = s % 16
  · exact hO j (by omega) k0 k1 k2 a0 a1 a2 ⟨p, Or.inl ⟨by decide, n0⟩⟩
  · by_cases n1 : cT ρ j 1 = s / 16 ∧ k1 = s % 16
    · exact hO j (by omega) k0 k1 k2 a0 a1 a2 ⟨p, Or.inr (Or.inl ⟨by decide, n1⟩)⟩
    · by_cases n2 : cT ρ j 2 = s / 16 ∧ k2 = s % 16
      · exact hO j (by omega) k0 k1 k2 a0 a1 a2 ⟨p, Or.inr (Or.inr ⟨by decide, n2⟩)⟩
      · have f : ∀ t k, t < 6 → k < 16 → ¬ (t = s / 16 ∧ k = s % 16) → alL (upd z (s / 16 * 16 + s % 16) 1) t k → alL z t k := fun t k ht hk hn h => by
          unfold alL at h ⊢
          rw [pk_un (by omega)] at h
          exact h
        exact Int.le_trans (hD _ (cK_lt hB hj k0 k1 k2 a0 a1 a2)).1 (hC j hj k0 k1 k2 a0 a1 a2 ⟨f _ _ l0 a0 n0 p.1, f _ _ l1 a1 n1 p.2.1, f _ _ l2 a2 n2 p.2.2⟩)
theorem Bas_d {S : Nat → Prop} {fa fb : Nat → Int64} {z : Nat → Int32} {L : Int} (h : Bas fa) (hJ : LJ S fb z L) (hD : DEC fa fb z) : Bas fb := by
  obtain ⟨a, b, c⟩ := h
  have x1 := (hD 57 (by decide)).1
  have x2 := (hD 79 (by decide)).1
  have x3 := (hD 92 (by decide)).1
  have y1 := (hJ.1 57 (by decide)).1
  have y2 := (hJ.1 79 (by decide)).1
  have y3 := (hJ.1 92 (by decide)).1
  exact ⟨by omega, by omega, by omega⟩
theorem cz_up {z : Nat → Int32} {i s : Nat} (h : cz z 0 96 = i) (hs : s < 96) (hz : z s = 0) : cz (upd z (s / 16 * 16 + s % 16) 1) 0 96 = i + 1 := by
  rw [dm16]
  have q := cz_in (z := z) (b := 0) (k := s) (by rw [Nat.zero_add]; exact hz) 96 hs
  rw [Nat.zero_add] at q
  rw [q, h]
theorem cz_full {z : Nat → Int32} : ∀ n, cz z 0 n = n → ∀ k, k < n → ¬ z k = 0 := by
  intro n
  induction n with
  | zero => intro _ k hk; omega
  | succ n ih =>
    intro h k hk
    have hle := cz_le (z := z) (b := 0) n
    rw [cz, Nat.zero_add] at h
    by_cases e : z n = 0
    · rw [if_pos e] at h; omega
    · rw [if_neg e] at h
      by_cases q : k = n
      · subst q; exact e
      · exact ih (by omega) k (by omega)
theorem LF_of {ρ : Nat → RT} {r : Nat} {f : Nat → Int64} {z : Nat → Int32} (hB : BI ρ r) (hJ : ∃ L, LJ (Der r (cO ρ) (cT ρ) (cK ρ)) f z L) (hC : LCl ρ r f z) (hb : Bas f) (hset : ∀ s, s < 96 → (f s).toInt < 2305843009213693952 → ¬ z s = 0) : LFin ρ r f := by
  obtain ⟨L, j1, j2, -⟩ := hJ
  refine ⟨j1, j2, hb, fun j hj k0 k1 k2 a0 a1 a2 p => ?_⟩
  have l0 := cT_lt hB hj (i := 0) (by decide)
  have l1 := cT_lt hB hj (i := 1) (by decide)
  have l2 := cT_lt hB hj (i := 2) (by decide)
  exact hC j hj k0 k1 k2 a0 a1 a2 ⟨hset _ (by omega) p.1, hset _ (by omega) p.2.1, hset _ (by omega) p.2.2⟩
theorem LF_end1 {ρ : Nat → RT} {r : Nat} {f : Nat → Int64} {z : Nat → Int32} {x : Int32} (hN : ∃ le, NRx f z 96 x le) (c : x = -1) (hB : BI ρ r) (hJ : ∃ L, LJ (Der r (cO ρ) (cT ρ) (cK ρ)) f z L) (hC : LCl ρ r f z) (hb : Bas f) : LFin ρ r f := by
  refine LF_of hB hJ hC hb (fun s hs q w => ?_)
  obtain ⟨le, hN⟩ := hN
  rcases hN with ⟨-, -, h3⟩ | ⟨k, h1, h2, -⟩
  · have := h3 s hs w; omega
  · rw [c] at h2
    have h9 := congrArg Int32.toInt h2.symm
    rw [nI_toInt (by omega), show (-1 : Int32).toInt = -1 from by decide] at h9
    omega
theorem LF_end2 {ρ : Nat → RT} {r i : Nat} {f : Nat → Int64} {z : Nat → Int32} (hi : i = 96) (hcz : cz z 0 96 = i) (hB : BI ρ r) (hJ : ∃ L, LJ (Der r (cO ρ) (cT ρ) (cK ρ)) f z L) (hC : LCl ρ r f z) (hb : Bas f) : LFin ρ r f := LF_of hB hJ hC hb (fun s hs _ => cz_full 96 (by omega) s hs)
def rcF (f : Nat → Int64) (s : Nat) : Int32 := if 0 ≤ lg_cmp (f s) 2305843009213693952 then 0 else 1
def kbF (f : Nat → Int64) (a : Nat) : Nat → Int32
  | 0 => 0
  | i + 1 => if rcF f ((a * 16) + i) = 0 then kbF f a i else kbF f a i ||| ((1 : Int32) <<< ((nI i) &&& 31))
def KiC (ρ : Nat → RT) (r : Nat) (p : Int32) (f : Nat → Int64) (x : Int32) : Prop := (opn p = 0 ∧ x = -1001) ∨ ∃ a, a < 3 ∧ p = nI a ∧ x = kbF f a 16 ∧ LFin ρ r f
