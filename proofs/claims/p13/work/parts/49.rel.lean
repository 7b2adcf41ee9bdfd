theorem opn_wi (x : Int32) : opn x = wi x 0 2 := by
  unfold opn wi
  by_cases h : x < 0
  · rw [if_pos h, if_pos h]
  · rw [if_neg h, if_neg h]
    by_cases h2 : 3 ≤ x
    · rw [if_pos h2, if_pos]
      simp only [Int32.lt_iff_toInt_lt, Int32.le_iff_toInt_le] at h2 ⊢
      rw [show (3 : Int32).toInt = 3 from by decide] at h2
      rw [show (2 : Int32).toInt = 2 from by decide]
      omega
    · rw [if_neg h2, if_neg]
      simp only [Int32.lt_iff_toInt_lt, Int32.le_iff_toInt_le] at h2 ⊢
      rw [show (3 : Int32).toInt = 3 from by decide] at h2
      rw [show (2 : Int32).toInt = 2 from by decide]
      omega
/-! both sides beside each other -/
/-- the rules of both sides -/
def RREL (ρ : Nat → RT) (ro re rn rg : Nat → Int32) (r : Nat) : Prop := ∀ j, j < r → ro j = (ρ j).2.1.1 ∧ re j = (ρ j).2.1.2.1 ∧ rn j = (ρ j).2.1.2.2 ∧ ∃ e w, 1 ≤ e ∧ e ≤ 3 ∧ 2 ≤ w ∧ w ≤ 4 ∧ re j = nI e ∧ rn j = nI w ∧
  ∀ k, k < e → ∃ q a b, q < 5 ∧ a < w ∧ b < w ∧ ¬ a = b ∧ (ρ j).2.2.1 k = nI q ∧ (ρ j).2.2.2.1 k = nI a ∧ (ρ j).2.2.2.2.1 k = nI b ∧ rg (3 * j + k) = nI (100 * q + 10 * a + b)
/-- the graph of both sides -/
def FREL (g1 g2 g3 ea : Nat → Int32) (n v : Nat) : Prop := ∀ j, j < n → ∃ q a b, q < 5 ∧ a < v ∧ b < v ∧ ¬ a = b ∧ g1 j = nI q ∧ g2 j = nI a ∧ g3 j = nI b ∧ ea j = nI (100 * q + 10 * a + b)
theorem hs_wi {p : Int32} {n : Nat} (hn : n < 1000) : hs p n = 0 ↔ wi p 0 (nI n - 1) = 0 := by
  unfold hs wi
  by_cases h : p < 0
  · rw [if_pos h, if_pos h]
  · rw [if_neg h, if_neg h]
    have e : nI n ≤ p ↔ nI n - 1 < p := by
      obtain ⟨j, hj, rfl⟩ := nI_of h
      by_cases h0 : n = 0
      · subst h0
        have h1 : nI 0 - 1 < nI j := by
          simp only [Int32.lt_iff_toInt_lt]
          rw [show (nI 0 - 1).toInt = -1 from by decide, nI_toInt hj]
          omega
        exact ⟨fun _ => h1, fun _ => nI_le (by omega) hj⟩
      · rw [show nI n - 1 = nI (n - 1) from pk_sub (a := n) (b := 1) (by omega), nI_leI (by omega) hj, nI_ltI (by omega) hj]
        omega
    by_cases h2 : nI n ≤ p
    · rw [if_pos h2, if_pos (e.mp h2)]
    · rw [if_neg h2, if_neg (fun q => h2 (e.mpr q))]
theorem hs_k {n k : Nat} (hk : k < n) (hn : n < 1000) : ¬ hs (nI k) n = 0 := by rw [hs_ok hk hn]; decide
theorem let_iff {p : Int32} {z : Nat} (hz : z ≤ 16) : letOK p z ↔ ¬ wi p 32 126 = 0 ∧ ¬ nI z = 16 := by
  have e : nI z < 16 ↔ ¬ nI z = 16 := by
    rw [show (16 : Int32) = nI 16 from rfl, nI_ltI (by omega) (by omega), nI_eq (by omega) (by omega)]
    omega
  unfold letOK wi
  rw [e]
  by_cases h : p < 32
  · rw [if_pos h]
    exact ⟨fun q => absurd h q.1, fun q => absurd rfl q.1⟩
  · rw [if_neg h]
    by_cases h2 : 126 < p
    · rw [if_pos h2]
      exact ⟨fun q => absurd q.2.1 (Int32.not_le.mpr h2), fun q => absurd rfl q.1⟩
    · rw [if_neg h2]
      exact ⟨fun q => ⟨by decide, q.2.2⟩, fun q => ⟨h, Int32.not_lt.mp h2, q.2⟩⟩
theorem let_rel {p : Int32} {z a b : Nat} {pf f g : Nat → Int32} (hz : z ≤ 16) (h : (letOK p z ∧ a = z + 1 ∧ f = upd pf z p) ∨ (¬ letOK p z ∧ a = z ∧ f = pf)) (h2 : (¬ wi p 32 126 = 0 ∧ ¬ nI z = 16 ∧ b = z + 1 ∧ g = upd pf z p) ∨ ((wi p 32 126 = 0 ∨ nI z = 16) ∧ b = z ∧ g = pf)) : a = b ∧ f = g := by
  have hi := let_iff (p := p) hz
  rcases h with ⟨h1, rfl, rfl⟩ | ⟨h1, rfl, rfl⟩ <;> rcases h2 with ⟨w1, w2, rfl, rfl⟩ | ⟨w1, rfl, rfl⟩
  · exact ⟨rfl, rfl⟩
  · have := hi.mp h1
    rcases w1 with w | w
    · exact absurd w this.1
    · exact absurd w this.2
  · exact absurd (hi.mpr ⟨w1, w2⟩) h1
  · exact ⟨rfl, rfl⟩
theorem let_ans {p : Int32} {z : Nat} (hz : z ≤ 16) : (if p < 32 then -1002 else if p ≤ 126 then (if nI z < 16 then nI (z + 1) else -1004) else -1002 : Int32) = (if wi p 32 126 = 0 then -1002 else if nI z = 16 then -1004 else nI (z + 1)) := by
  have e : nI z < 16 ↔ ¬ nI z = 16 := by
    rw [show (16 : Int32) = nI 16 from rfl, nI_ltI (by omega) (by omega), nI_eq (by omega) (by omega)]
    omega
  unfold wi
  by_cases h : p < 32
  · rw [if_pos h, if_pos h, if_pos rfl]
  · rw [if_neg h, if_neg h]
    by_cases h2 : 126 < p
    · rw [if_pos h2, if_neg (Int32.not_le.mpr h2), if_pos rfl]
    · rw [if_neg h2, if_pos (Int32.not_lt.mp h2), if_neg (show ¬ (1 : Int32) = 0 from by decide)]
      by_cases h3 : nI z = 16
      · rw [if_pos h3, if_neg (fun q => e.mp q h3)]
      · rw [if_neg h3, if_pos (e.mpr h3)]
theorem FF_uniq {ok : Nat → Prop} {z a b : Nat} (h : FF ok z a) (h2 : FF ok z b) : a = b := by
  rcases Nat.lt_trichotomy a b with q | q | q
  · rcases h.2.2 with w | w
    · have := h2.1; omega
    · exact absurd (h2.2.1 a q) w
  · exact q
  · rcases h2.2.2 with w | w
    · have := h.1; omega
    · exact absurd (h.2.1 b q) w
theorem nd_lt {pf : Nat → Int32} {z a j : Nat} (ha : a < 5) (hj : j < z) (e : pf j = nI (48 + a)) (hg : gapOK pf z) : a < ndN pf z := by
  have h2 := nd_ge pf z
  have f : ∀ k, a = k → ¬ nmB pf (nI (48 + k)) z = 0 := fun k hk => by
    subst hk
    rw [nmB_1 e z hj]
    decide
  rcases (show a < 2 ∨ a = 2 ∨ a = 3 ∨ a = 4 by omega) with q | q | q | q
  · omega
  · have h := f 2 q
    have h' : ¬ nmB pf 50 z = 0 := h
    unfold ndN
    rw [if_neg h']
    omega
  · have h' : ¬ nmB pf 51 z = 0 := f 3 q
    have h3 : ¬ nmB pf 50 z = 0 := hg.1.resolve_left h'
    unfold ndN
    rw [if_neg h', if_neg h3]
    omega
  · have h' : ¬ nmB pf 52 z = 0 := f 4 q
    have h3 : ¬ nmB pf 51 z = 0 := hg.2.resolve_left h'
    have h4 : ¬ nmB pf 50 z = 0 := hg.1.resolve_left h3
    unfold ndN
    rw [if_neg h', if_neg h3, if_neg h4]
    omega
/-- an edge of a text, on both sides -/
theorem EX_rel {pf : Nat → Int32} {p d z : Nat} {x y1 y2 y3 : Int32} (hd : d ≤ 5) (hg : gapOK pf z) (hp : p + 2 < z) (h : EX pf p d x) (h1 : y1 = cL (pf p)) (h2 : y2 = pf (p + 1) - 48) (h3 : y3 = pf (p + 2) - 48) : ∃ q a b, q < 5 ∧ a < ndN pf z ∧ b < ndN pf z ∧ ¬ a = b ∧ y1 = nI q ∧ y2 = nI a ∧ y3 = nI b ∧ x = nI (100 * q + 10 * a + b) := by
  obtain ⟨q, a, b, hq, ha, hb, hn, e1, e2, e3, e4⟩ := h
  refine ⟨q, a, b, hq, nd_lt (by omega) (by omega) e2 hg, nd_lt (by omega) hp e3 hg, hn, h1.trans e1, ?_, ?_, e4⟩
  · rw [h2, e2, show nI (48 + a) - 48 = nI (48 + a - 48) from pk_sub (a := 48 + a) (b := 48) (by omega)]
    congr 1
    omega
  · rw [h3, e3, show nI (48 + b) - 48 = nI (48 + b - 48) from pk_sub (a := 48 + b) (b := 48) (by omega)]
    congr 1
    omega
theorem nd_le4 {pf : Nat → Int32} {z : Nat} (h : RuleOK pf z) : ndN pf z ≤ 4 := by
  have h4 : nmB pf 52 z = 0 := by
    apply nmB_0
    intro j hj e
    have hz := ro_z h
    have ok := h.2.1.2.1 j hj
    rcases (show j = 0 ∨ j = 1 ∨ (2 ≤ j ∧ (j - 2) % 3 = 0) ∨ (2 ≤ j ∧ (j - 2) % 3 = 1) ∨ (2 ≤ j ∧ (j - 2) % 3 = 2) by omega) with q | q | q | q | q
    · subst q
      exact nd_65 (okH0.mp ok) 4 (by decide) e
    · subst q
      exact nd_61 (okH1.mp ok) 4 (by decide) e
    · have := (okE0_0 (q := (j - 2) / 3) (by omega)).mp ok
      rw [e] at this
      exact absurd (by decide) this.1
    · have := (okE0_1 (q := (j - 2) / 3) (by omega) (by omega)).mp ok
      rw [e] at this
      exact absurd (by decide) this
    · have := (okE0_2 (q := (j - 2) / 3) (by omega) (by omega)).mp ok
      rw [e] at this
      exact absurd (by decide) this.1
  unfold ndN
  rw [if_pos h4]
  repeat' split
  all_goals omega
theorem ru_rel {pf : Nat → Int32} {z r : Nat} {ρ ρ2 : Nat → RT} {ro re rn rg ro2 re2 rn2 rg2 : Nat → Int32} {a a' : Int32} {z2 r2 z3 r3 : Nat} (h : RuP pf z r ρ a z2 r2 ρ2) (h2 : MRuP pf z r ro re rn rg a' z3 r3 ro2 re2 rn2 rg2) (hR : RREL ρ ro re rn rg r) : a = a' ∧ z2 = z3 ∧ r2 = r3 ∧ RREL ρ2 ro2 re2 rn2 rg2 r2 := by
  rcases h with ⟨h1, rfl, rfl, rfl, rfl⟩ | ⟨h1, h3, rfl, rfl, rfl, rfl⟩ | ⟨h1, h3, rfl, rfl, rfl, h4, h5⟩
  · rcases h2 with ⟨w1, rfl, rfl, rfl, rfl, rfl, rfl, rfl⟩ | ⟨w1, -⟩ | ⟨w1, -⟩
    · exact ⟨rfl, rfl, rfl, hR⟩
    · exact absurd w1 h1
    · exact absurd w1 h1
  · rcases h2 with ⟨w1, -⟩ | ⟨w1, w3, rfl, rfl, rfl, rfl, rfl, rfl, rfl⟩ | ⟨w1, w3, -⟩
    · exact absurd h1 w1
    · exact ⟨rfl, rfl, rfl, hR⟩
    · exact absurd w3 h3
  · rcases h2 with ⟨w1, -⟩ | ⟨w1, w3, -⟩ | ⟨w1, w3, rfl, rfl, rfl, rfl, rfl, rfl, w4, w5⟩
    · exact absurd h1 w1
    · exact absurd h3 w3
    · refine ⟨rfl, rfl, rfl, fun j hj => ?_⟩
      by_cases h9 : j = r
      · subst h9
        have hz := ro_z h1
        obtain ⟨t1, t2, t3, t4, -⟩ := h4
        rw [pk_us, pk_us, pk_us]
        refine ⟨t1.symm, t2.symm, t3.symm, (z - 2) / 3, ndN pf z, by omega, by omega, nd_ge pf z, nd_le4 h1, rfl, rfl, fun k hk => ?_⟩
        exact EX_rel (by decide) h1.2.2.2.2 (by omega) (w4 k hk) (t4 k hk).1 (t4 k hk).2.1 (t4 k hk).2.2
      · rw [pk_un h9, pk_un h9, pk_un h9, h5 j h9]
        obtain ⟨x1, x2, x3, e, w, y1, y2, y3, y4, y5, y6, y7⟩ := hR j (by omega)
        refine ⟨x1, x2, x3, e, w, y1, y2, y3, y4, y5, y6, fun k hk => ?_⟩
        rw [w5 _ (by omega)]
        exact y7 k hk
theorem sg_lt {k r j : Nat} (hj : j < r - 1) : sg k r j = if j < k then j else j + 1 := by
  unfold sg
  by_cases h : j < k
  · rw [if_pos h, if_pos h]
  · rw [if_neg h, if_neg h, if_pos (by omega)]
theorem dr_rel {p : Int32} {r : Nat} {ρ ρ2 : Nat → RT} {ro re rn rg ro2 re2 rn2 rg2 : Nat → Int32} {a a' : Int32} {r2 r3 : Nat} (hr : r ≤ 9) (h : DrP p r ρ a r2 ρ2) (h2 : MDrP p r ro re rn rg a' r3 ro2 re2 rn2 rg2) (hR : RREL ρ ro re rn rg r) : a = a' ∧ r2 = r3 ∧ RREL ρ2 ro2 re2 rn2 rg2 r2 := by
  rcases h with ⟨h1, rfl, rfl, rfl⟩ | ⟨k, hk, rfl, rfl, rfl, rfl⟩
  · rcases h2 with ⟨-, rfl, rfl, rfl, rfl, rfl, rfl⟩ | ⟨k, hk, rfl, -⟩
    · exact ⟨rfl, rfl, hR⟩
    · exact absurd h1 (hs_k hk (by omega))
  · rcases h2 with ⟨w1, -⟩ | ⟨k2, hk2, e, rfl, rfl, s1, s2, s3, s4⟩
    · exact absurd ((hs_wi (by omega)).mpr w1) (hs_k hk (by omega))
    · have := (nI_eq (by omega) (by omega)).mp e
      subst this
      refine ⟨rfl, rfl, fun j hj => ?_⟩
      dsimp only
      have e1 := s1 j (by omega)
      have e2 := s2 j (by omega)
      have e3 := s3 j (by omega)
      by_cases h8 : j < k
      · have hsg : sg k r j = j := by rw [sg_lt hj, if_pos h8]
        have hn : ¬ (k ≤ j ∧ j < r - 1) := by omega
        rw [if_neg hn] at e1 e2 e3
        rw [hsg, e1, e2, e3]
        obtain ⟨x1, x2, x3, e, w, y1, y2, y3, y4, y5, y6, y7⟩ := hR j (by omega)
        refine ⟨x1, x2, x3, e, w, y1, y2, y3, y4, y5, y6, fun i hi => ?_⟩
        rw [s4 _ (by omega), if_neg (by omega)]
        exact y7 i hi
      · have hsg : sg k r j = j + 1 := by rw [sg_lt hj, if_neg h8]
        have hn : k ≤ j ∧ j < r - 1 := by omega
        rw [if_pos hn] at e1 e2 e3
        rw [hsg, e1, e2, e3]
        obtain ⟨x1, x2, x3, e, w, y1, y2, y3, y4, y5, y6, y7⟩ := hR (j + 1) (by omega)
        refine ⟨x1, x2, x3, e, w, y1, y2, y3, y4, y5, y6, fun i hi => ?_⟩
        rw [s4 _ (by omega), if_pos (by omega), show 3 * j + i + 3 = 3 * (j + 1) + i by omega]
        exact y7 i hi
theorem gr_rel {pf : Nat → Int32} {z n v : Nat} {x1 x2 x3 y1 y2 y3 ea ea2 : Nat → Int32} {a a' s1 s3 s12 s32 k1b k3b : Int32} {z2 n2 v2 z3 n3 v3 : Nat} (h : GrP pf z n v x1 x2 x3 a z2 n2 v2 y1 y2 y3) (hs : GrS pf z s1 s3 s12 s32) (h2 : MGrP pf z n v ea s1 s3 a' z3 n3 v3 ea2 k1b k3b) (hF : FREL x1 x2 x3 ea n v) : a = a' ∧ z2 = z3 ∧ n2 = n3 ∧ v2 = v3 ∧ s12 = k1b ∧ s32 = k3b ∧ FREL y1 y2 y3 ea2 n2 v2 := by
  rcases h with ⟨h1, rfl, rfl, rfl, rfl, rfl, rfl, rfl⟩ | ⟨h1, rfl, rfl, rfl, rfl, h3⟩
  · rcases hs with ⟨-, rfl, rfl⟩ | ⟨h0, -⟩
    · rcases h2 with ⟨-, rfl, rfl, rfl, rfl, rfl, rfl, rfl⟩ | ⟨w1, -⟩
      · exact ⟨rfl, rfl, rfl, rfl, rfl, rfl, hF⟩
      · exact absurd w1 h1
    · exact absurd h0 h1
  · rcases hs with ⟨h0, -⟩ | ⟨-, rfl, rfl⟩
    · exact absurd h1 h0
    · rcases h2 with ⟨w1, -⟩ | ⟨w1, rfl, rfl, rfl, rfl, w2, rfl, rfl⟩
      · exact absurd h1 w1
      · refine ⟨rfl, rfl, rfl, rfl, rfl, rfl, fun j hj => ?_⟩
        have hz := go_z h1
        exact EX_rel (by decide) h1.2.2 (by omega) (w2 j hj) (h3 j hj).1 (h3 j hj).2.1 (h3 j hj).2.2
theorem told_n {q a b : Nat} : ((100 * (nI q)) + (10 * (nI a))) + (nI b) = nI (100 * q + 10 * a + b) := by
  rw [show (100 : Int32) * nI q = nI (100 * q) from pk_mul 100 q, show (10 : Int32) * nI a = nI (10 * a) from pk_mul 10 a, nI_add, nI_add]
theorem be_rel {p : Int32} {n v n2 v2 n3 v3 : Nat} {g1 g2 g3 y1 y2 y3 ea ea2 : Nat → Int32} {s1 s3 s12 s32 k1b k3b : Int32} (h : (opn p = 0 ∧ n2 = n ∧ v2 = v ∧ y1 = g1 ∧ y2 = g2 ∧ y3 = g3 ∧ s12 = s1 ∧ s32 = s3) ∨ (¬ opn p = 0 ∧ n2 = 1 ∧ v2 = 2 ∧ y1 = upd g1 0 p ∧ y2 = upd g2 0 0 ∧ y3 = upd g3 0 1 ∧ s12 = 0 ∧ s32 = s3 + 1))
    (h2 : (wi p 0 2 = 0 ∧ n3 = n ∧ v3 = v ∧ ea2 = ea ∧ k1b = s1 ∧ k3b = s3) ∨ (¬ wi p 0 2 = 0 ∧ n3 = 1 ∧ v3 = 2 ∧ ea2 = upd ea 0 ((100 * p) + 1) ∧ k1b = 0 ∧ k3b = s3 + 1)) (hF : FREL g1 g2 g3 ea n v) : n2 = n3 ∧ v2 = v3 ∧ s12 = k1b ∧ s32 = k3b ∧ FREL y1 y2 y3 ea2 n2 v2 := by
  rw [← opn_wi] at h2
  rcases h with ⟨h1, rfl, rfl, rfl, rfl, rfl, rfl, rfl⟩ | ⟨h1, rfl, rfl, rfl, rfl, rfl, rfl, rfl⟩
  · rcases h2 with ⟨-, rfl, rfl, rfl, rfl, rfl⟩ | ⟨w, -⟩
    · exact ⟨rfl, rfl, rfl, rfl, hF⟩
    · exact absurd h1 w
  · rcases h2 with ⟨w, -⟩ | ⟨-, rfl, rfl, rfl, rfl, rfl⟩
    · exact absurd w h1
    · refine ⟨rfl, rfl, rfl, rfl, fun j hj => ?_⟩
      have hj0 : j = 0 := by omega
      subst hj0
      obtain ⟨o, ho, rfl⟩ := opn_y h1
      rw [pk_us, pk_us, pk_us, pk_us]
      refine ⟨o, 0, 1, by omega, by decide, by decide, by decide, rfl, rfl, rfl, ?_⟩
      rw [show (100 : Int32) * nI o = nI (100 * o) from pk_mul 100 o]
      exact nI_add (100 * o) 1
theorem of_rel {p0 p1 : Int32} {r : Nat} {ρ : Nat → RT} {ro re rn rg : Nat → Int32} {a a' : Int32} (hr : r ≤ 9) (h : COf p0 p1 r ρ a) (h2 : MOf p0 p1 r ro re rn rg a') (hR : RREL ρ ro re rn rg r) : a = a' := by
  rcases h with ⟨h1, rfl⟩ | ⟨j, hj, rfl, h⟩
  · rcases h2 with ⟨-, rfl⟩ | ⟨k, hk, rfl, -⟩
    · rfl
    · exact absurd h1 (hs_k hk (by omega))
  · rcases h2 with ⟨w1, -⟩ | ⟨k, hk, e, h2⟩
    · exact absurd ((hs_wi (by omega)).mpr w1) (hs_k hj (by omega))
    · have := (nI_eq (by omega) (by omega)).mp e
      subst this
      obtain ⟨x1, x2, x3, e9, w9, y1, y2, y3, y4, y5, y6, y7⟩ := hR j hj
      rcases h2 with ⟨w1, w2, rfl⟩ | ⟨w, hw, rfl, rfl⟩
      · rcases h with ⟨rfl, -⟩ | ⟨rfl, -⟩ | ⟨rfl, -⟩ | ⟨-, rfl⟩ | ⟨g1, g2, -⟩
        · exact absurd w1 (by decide)
        · exact absurd w1 (by decide)
        · exact absurd w1 (by decide)
        · rfl
        · exfalso
          unfold wi at w2
          rw [if_neg g1] at w2
          by_cases q : 12 < p1
          · simp only [Int32.lt_iff_toInt_lt] at q g2
            rw [show (12 : Int32).toInt = 12 from by decide] at q
            rw [show (13 : Int32).toInt = 13 from by decide] at g2
            omega
          · rw [if_neg q] at w2
            exact absurd w2 (by decide)
      · have n0 : ∀ c : Nat, c < 100 → (nI w = nI c ↔ w = c) := fun c hc => nI_eq (by omega) (by omega)
        rcases h with ⟨g, rfl⟩ | ⟨g, rfl⟩ | ⟨g, rfl⟩ | ⟨⟨g0, g1, g2, g3⟩, rfl⟩ | ⟨g1, g2, e, he, g3⟩
        · rw [rnow, if_pos ((n0 0 (by decide)).mp g)]
          exact x1.symm
        · have := (n0 1 (by decide)).mp g
          rw [rnow, if_neg (by omega), if_pos this]
          exact x2.symm
        · have := (n0 2 (by decide)).mp g
          rw [rnow, if_neg (by omega), if_neg (by omega), if_pos this]
          exact x3.symm
        · exfalso
          have a0 : ¬ w = 0 := fun q => g0 ((n0 0 (by decide)).mpr q)
          have a1 : ¬ w = 1 := fun q => g1 ((n0 1 (by decide)).mpr q)
          have a2 : ¬ w = 2 := fun q => g2 ((n0 2 (by decide)).mpr q)
          rcases g3 with g | g
          · have := ltN (a := w) (b := 10) (by decide) (by omega) g
            omega
          · have := nltN (a := w) (b := 13) (by decide) (by omega) g
            omega
        · have b1 := nltN (a := w) (b := 10) (by decide) (by omega) g1
          have ee : e = e9 := (nI_eq (by omega) (by omega)).mp (by rw [← he.2, ← x2, y5])
          subst ee
          have es : nI w - 10 = nI (w - 10) := pk_sub (a := w) (b := 10) b1
          rw [rnow, if_neg (by omega), if_neg (by omega), if_neg (by omega), y5]
          rcases g3 with ⟨g4, rfl⟩ | ⟨i, hi, g4, rfl⟩
          · rw [if_pos]
            rcases Nat.lt_or_ge (w - 10) e with q | q
            · rw [es] at g4
              exact absurd g4 (hs_k q (by omega))
            · exact nI_le q (by omega)
          · rw [es] at g4
            have e3 := (nI_eq (by omega) (by omega)).mp g4
            rw [if_neg (fun q => by have := leN (a := e) (b := w - 10) (by omega) (by omega) q; omega)]
            obtain ⟨q, a, b, z1, z2, z3, z4, z5, z6, z7, z8⟩ := y7 i hi
            rw [z5, z6, z7, told_n, ← z8]
            congr 1
            omega
theorem nn_lt {A B a v w : Nat} (hA : A < v) (hB : B < v) (ha : a < w) (hw : 2 ≤ w) : (if a = 0 then A else if a = 1 then B else v + a - 2) < v + (w - 2) := by
  repeat' split
  all_goals omega
theorem nn_ne {A B a b v : Nat} (hA : A < v) (hB : B < v) (hAB : ¬ A = B) (hab : ¬ a = b) (h2 : 2 ≤ v) : ¬ (if a = 0 then A else if a = 1 then B else v + a - 2) = (if b = 0 then A else if b = 1 then B else v + b - 2) := by
  repeat' split
  all_goals omega
theorem nC_n {v a A B : Nat} (hv : v < 100) (ha : a < 100) (h2 : 2 ≤ v) : nC v (nI a) (nI A) (nI B) = nI (if a = 0 then A else if a = 1 then B else v + a - 2) := by
  unfold nC
  rcases (show a = 0 ∨ a = 1 ∨ 2 ≤ a by omega) with q | q | q
  · subst q
    rw [if_pos (show nI 0 = 0 from rfl), if_pos rfl]
  · subst q
    rw [if_neg (show ¬ nI 1 = 0 from by decide), if_pos (show nI 1 = 1 from rfl), if_neg (by decide), if_pos rfl]
  · rw [if_neg (fun e => by have := (nI_eq (a := a) (b := 0) (by omega) (by decide)).mp e; omega), if_neg (fun e => by have := (nI_eq (a := a) (b := 1) (by omega) (by decide)).mp e; omega), if_neg (by omega), if_neg (by omega), nI_add]
    exact pk_sub (a := v + a) (b := 2) (by omega)
theorem nF_n {v a q A B : Nat} (hq : q < 5) (hA : A < 10) (hB : B < 10) (hv : v < 100) (ha : a < 100) (h2 : 2 ≤ v) : nF v (nI a) (nI (100 * q + 10 * A + B)) = nI (if a = 0 then A else if a = 1 then B else v + a - 2) := by
  have h := nC_n (A := A) (B := B) hv ha h2
  unfold nC at h
  unfold nF
  rw [fO_n hq hA hB, tO_n hq hA hB]
  exact h
theorem st_rel {p0 p1 : Int32} {r n v : Nat} {g1 g2 g3 ea y1 y2 y3 ea2 ro re rn rg : Nat → Int32} {ρ : Nat → RT} {s1 s2 a a' s12 s22 k1b k2b : Int32} {n2 v2 n3 v3 : Nat} (hr : r ≤ 9) (hf : FgI n v) (h : CStP p0 p1 r n v g1 g2 g3 ρ s1 s2 a n2 v2 y1 y2 y3 s12 s22) (h2 : MStP p0 p1 r n v ea ro re rn rg s1 s2 a' n3 v3 ea2 k1b k2b) (hR : RREL ρ ro re rn rg r) (hF : FREL g1 g2 g3 ea n v) : a = a' ∧ n2 = n3 ∧ v2 = v3 ∧ s12 = k1b ∧ s22 = k2b ∧ FREL y1 y2 y3 ea2 n2 v2 := by
  have hn := hf.1
  have hv := hf.2.1
  rcases h with ⟨h1, rfl, rfl, rfl, rfl, rfl, rfl, rfl, rfl⟩ | ⟨j, k, hj, hk, rfl, rfl, h⟩
  · rcases h2 with ⟨-, rfl, rfl, rfl, rfl, rfl, rfl⟩ | ⟨j, k, hj, hk, rfl, rfl, -⟩
    · exact ⟨rfl, rfl, rfl, rfl, rfl, hF⟩
    · rcases h1 with q | q
      · exact absurd q (hs_k hj (by omega))
      · exact absurd q (hs_k hk (by omega))
  · rcases h2 with ⟨w1, -⟩ | ⟨j', k', hj', hk', e1, e2, h2⟩
    · rcases w1 with q | q
      · exact absurd ((hs_wi (by omega)).mpr q) (hs_k hj (by omega))
      · exact absurd ((hs_wi (by omega)).mpr q) (hs_k hk (by omega))
    · have q1 := (nI_eq (by omega) (by omega)).mp e1
      have q2 := (nI_eq (by omega) (by omega)).mp e2
      subst q1
      subst q2
      obtain ⟨x1, x2, x3, e9, w9, t1, t2, t3, t4, t5, t6, t7⟩ := hR k hk
      obtain ⟨Q, A, B, f1, f2, f3, f4, f5, f6, f7, f8⟩ := hF j hj
      have hlo : lO (ea j) = g1 j := by rw [f8, lO_n f1 (by omega) (by omega), f5]
      rw [hlo, x1] at h2
      have hv2 : 2 ≤ v := by omega
      rcases h with ⟨h1, rfl, rfl, rfl, rfl, rfl, rfl, rfl, rfl⟩ | ⟨h1, e, w, b1, b2, b3, b4, b5, h⟩
      · rcases h2 with ⟨-, rfl, rfl, rfl, rfl, rfl, rfl⟩ | ⟨w1, -⟩
        · exact ⟨rfl, rfl, rfl, rfl, rfl, hF⟩
        · exact absurd w1 h1
      · rcases h2 with ⟨w1, -⟩ | ⟨-, e', w', c1, c2, c3, c4, c5, h2⟩
        · exact absurd h1 w1
        · have ee : e = e9 := (nI_eq (by omega) (by omega)).mp (by rw [← b4, ← x2, t5])
          have ew : w = w9 := (nI_eq (by omega) (by omega)).mp (by rw [← b5, ← x3, t6])
          have ee' : e' = e9 := (nI_eq (by omega) (by omega)).mp (by rw [← c4, t5])
          have ew' : w' = w9 := (nI_eq (by omega) (by omega)).mp (by rw [← c5, t6])
          subst ee
          subst ew
          subst ee'
          subst ew'
          rcases h with ⟨d1, rfl, rfl, rfl, rfl, rfl, rfl, rfl, rfl⟩ | ⟨d1, d2, rfl, rfl, rfl, rfl, rfl, R1, R2, R3⟩
          · rcases h2 with ⟨-, rfl, rfl, rfl, rfl, rfl, rfl⟩ | ⟨z1, z2, -⟩
            · exact ⟨rfl, rfl, rfl, rfl, rfl, hF⟩
            · omega
          · rcases h2 with ⟨z1, -⟩ | ⟨-, -, rfl, rfl, rfl, rfl, rfl, R4⟩
            · omega
            · refine ⟨rfl, rfl, rfl, rfl, rfl, fun i hi => ?_⟩
              rw [R1 i hi, R2 i hi, R3 i hi, R4 i hi]
              by_cases i1 : i < j
              · rw [if_pos i1, if_pos i1, if_pos i1, if_pos i1]
                obtain ⟨u, A2, B2, m1, m2, m3, m4⟩ := hF i (by omega)
                exact ⟨u, A2, B2, m1, by omega, by omega, m4⟩
              · rw [if_neg i1, if_neg i1, if_neg i1, if_neg i1]
                by_cases i2 : i < j + e'
                · rw [if_pos i2, if_pos i2, if_pos i2, if_pos i2]
                  obtain ⟨u, A2, B2, m1, m2, m3, m4, m5, m6, m7, m8⟩ := t7 (i - j) (by omega)
                  refine ⟨u, if A2 = 0 then A else if A2 = 1 then B else v + A2 - 2, if B2 = 0 then A else if B2 = 1 then B else v + B2 - 2, m1, nn_lt f2 f3 m2 t3, nn_lt f2 f3 m3 t3, nn_ne f2 f3 f4 m4 hv2, m5, ?_, ?_, ?_⟩
                  · show nC v ((ρ k).2.2.2.1 (i - j)) (g2 j) (g3 j) = _
                    rw [m6, f6, f7, nC_n (by omega) (by omega) hv2]
                  · show nC v ((ρ k).2.2.2.2.1 (i - j)) (g2 j) (g3 j) = _
                    rw [m7, f6, f7, nC_n (by omega) (by omega) hv2]
                  · show nwM v (ea j) (rg (3 * k + (i - j))) = _
                    rw [m8, f8]
                    unfold nwM
                    rw [lO_n m1 (by omega) (by omega), fO_n m1 (by omega) (by omega), tO_n m1 (by omega) (by omega), nF_n f1 (by omega) (by omega) (by omega) (by omega) hv2, nF_n f1 (by omega) (by omega) (by omega) (by omega) hv2, told_n]
                · rw [if_neg i2, if_neg i2, if_neg i2, if_neg i2]
                  obtain ⟨u, A2, B2, m1, m2, m3, m4⟩ := hF (i - (e' - 1)) (by omega)
                  exact ⟨u, A2, B2, m1, by omega, by omega, m4⟩
theorem ed_rel {p0 : Int32} {n v : Nat} {g1 g2 g3 ea : Nat → Int32} {a a' : Int32} (hf : FgI n v) (h : (hs p0 n = 0 ∧ a = -1001) ∨ ∃ j, j < n ∧ p0 = nI j ∧ a = ((100 * (g1 j)) + (10 * (g2 j))) + (g3 j)) (h2 : (wi p0 0 (nI n - 1) = 0 ∧ a' = -1001) ∨ ∃ j, j < n ∧ p0 = nI j ∧ a' = ea j) (hF : FREL g1 g2 g3 ea n v) : a = a' := by
  have hn := hf.1
  rcases h with ⟨h1, rfl⟩ | ⟨j, hj, rfl, rfl⟩
  · rcases h2 with ⟨-, rfl⟩ | ⟨j, hj, rfl, -⟩
    · rfl
    · exact absurd h1 (hs_k hj (by omega))
  · rcases h2 with ⟨w, -⟩ | ⟨k, hk, e, rfl⟩
    · exact absurd ((hs_wi (by omega)).mpr w) (hs_k hj (by omega))
    · have := (nI_eq (by omega) (by omega)).mp e
      subst this
      obtain ⟨Q, A, B, f1, f2, f3, f4, f5, f6, f7, f8⟩ := hF j hj
      rw [f5, f6, f7, f8, told_n]
theorem op_rel {g1 g2 g3 ea : Nat → Int32} {v : Nat} (hv : v ≤ 9) : ∀ n, FREL g1 g2 g3 ea n v → opE g1 n = mop ea n := by
  intro n
  induction n with
  | zero => intro _; rfl
  | succ n ih =>
    intro hF
    obtain ⟨Q, A, B, f1, f2, f3, f4, f5, f6, f7, f8⟩ := hF n (by omega)
    have e := ih (fun j hj => hF j (by omega))
    rw [opE, mop, f5, f8, lO_n f1 (by omega) (by omega), e]
    rcases (show Q = 0 ∨ Q = 1 ∨ Q = 2 ∨ Q = 3 ∨ Q = 4 by omega) with rfl | rfl | rfl | rfl | rfl
    · rw [if_neg (by decide), if_neg (by decide)]
    · rw [if_neg (by decide), if_neg (by decide)]
    · rw [if_neg (by decide), if_neg (by decide)]
    · rw [if_pos (by decide), if_pos (by decide)]
    · rw [if_pos (by decide), if_pos (by decide)]
