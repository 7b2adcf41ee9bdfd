/-! fewest() of both sides -/
theorem gi_of {g1 g2 g3 ea : Nat → Int32} {n v : Nat} (h : FREL g1 g2 g3 ea n v) : GI n v g1 g2 g3 := fun j hj => by
  obtain ⟨q, a, b, h1, h2, h3, -, e1, e2, e3, -⟩ := h j hj
  exact ⟨q, a, b, h1, h2, h3, e1, e2, e3⟩
theorem ea_of {g1 g2 g3 ea : Nat → Int32} {n v : Nat} (h : FREL g1 g2 g3 ea n v) : EAI n v ea := fun j hj => by
  obtain ⟨q, a, b, h1, h2, h3, -, -, -, -, e⟩ := h j hj
  exact ⟨q, a, b, h1, h2, h3, e⟩
/-- a digit of a rule's text stands in an edge -/
theorem ro_dig {pf : Nat → Int32} {z j a : Nat} (h : RuleOK pf z) (hj : j < z) (ha : a < 5) (e : pf j = nI (48 + a)) : ∃ i, i < (z - 2) / 3 ∧ (j = 2 + 3 * i + 1 ∨ j = 2 + 3 * i + 2) := by
  have hz := ro_z h
  have ok := h.2.1.2.1 j hj
  rcases (show j = 0 ∨ j = 1 ∨ (2 ≤ j ∧ (j - 2) % 3 = 0) ∨ (2 ≤ j ∧ (j - 2) % 3 = 1) ∨ (2 ≤ j ∧ (j - 2) % 3 = 2) by omega) with q | q | q | q | q
  · subst q
    exact absurd e (nd_65 (okH0.mp ok) a ha)
  · subst q
    exact absurd e (nd_61 (okH1.mp ok) a ha)
  · have := (okE0_0 (q := (j - 2) / 3) (by omega)).mp ok
    rw [e] at this
    exact absurd (by
      rcases (show a = 0 ∨ a = 1 ∨ a = 2 ∨ a = 3 ∨ a = 4 by omega) with e | e | e | e | e <;> subst e <;> decide) this.1
  · exact ⟨(j - 2) / 3, by omega, Or.inl (by omega)⟩
  · exact ⟨(j - 2) / 3, by omega, Or.inr (by omega)⟩
theorem nm_ex {pf : Nat → Int32} {x : Int32} {z : Nat} (h : ¬ nmB pf x z = 0) : ∃ j, j < z ∧ pf j = x := by
  apply Classical.byContradiction
  intro q
  exact h (nmB_0 z (fun j hj e => q ⟨j, hj, e⟩))
theorem nI48 {a : Nat} : nI (48 + a) - 48 = nI a := by
  rw [show nI (48 + a) - 48 = nI (48 + a - 48) from pk_sub (a := 48 + a) (b := 48) (by omega)]
  congr 1
  omega
/-- a rule that is read -/
theorem RQ_new {pf : Nat → Int32} {z : Nat} {t : RT} (h : RuleOK pf z) (ht : RNew pf z t) : RQ t := by
  have hz := ro_z h
  obtain ⟨h1, h2, h3, h4, h5, -, -⟩ := ht
  obtain ⟨o, ho, eo⟩ := opn_y (ro_l h)
  have hdig : ∀ j, j < (z - 2) / 3 → ∃ a b, a < ndN pf z ∧ b < ndN pf z ∧ pf (2 + 3 * j + 1) = nI (48 + a) ∧ pf (2 + 3 * j + 2) = nI (48 + b) := fun j hj => by
    have w1 := (okE0_1 (pf := pf) (i := 2 + 3 * j + 1) (q := j) rfl (by omega)).mp (h.2.1.2.1 _ (by omega))
    have w2 := ((okE0_2 (pf := pf) (i := 2 + 3 * j + 2) (q := j) rfl (by omega)).mp (h.2.1.2.1 _ (by omega))).1
    obtain ⟨k1, a1, a2, e1⟩ := wi_rng (a := 48) (b := 51) (by decide) (by decide) w1
    obtain ⟨k2, b1, b2, e2⟩ := wi_rng (a := 48) (b := 51) (by decide) (by decide) w2
    have f1 : pf (2 + 3 * j + 1) = nI (48 + (k1 - 48)) := by rw [e1]; congr 1; omega
    have f2 : pf (2 + 3 * j + 2) = nI (48 + (k2 - 48)) := by rw [e2]; congr 1; omega
    exact ⟨k1 - 48, k2 - 48, nd_lt (by omega) (by omega) f1 h.2.2.2.2, nd_lt (by omega) (by omega) f2 h.2.2.2.2, f1, f2⟩
  have hend : ∀ a, a < 2 → ∃ i, i < (z - 2) / 3 ∧ (t.2.2.2.1 i = nI a ∨ t.2.2.2.2.1 i = nI a) := fun a ha => by
    have hn : ¬ nmB pf (nI (48 + a)) z = 0 := by
      rcases (show a = 0 ∨ a = 1 by omega) with e | e <;> subst e
      · exact h.2.2.1
      · exact h.2.2.2.1
    obtain ⟨j, hj, e⟩ := nm_ex hn
    obtain ⟨i, hi, q⟩ := ro_dig h hj (by omega) e
    refine ⟨i, hi, ?_⟩
    rcases q with q | q
    · left; rw [(h4 i hi).2.1, ← q, e]; exact nI48
    · right; rw [(h4 i hi).2.2, ← q, e]; exact nI48
  refine ⟨o, (z - 2) / 3, ndN pf z, ho, by omega, by omega, nd_ge pf z, nd_le4 h, by rw [h1]; exact eo, h2, h3, fun i hi => ?_, fun i hi => ?_, hend 0 (by decide), hend 1 (by decide), fun e1 => ?_⟩
  · obtain ⟨q, hq, eq⟩ := cL_rng (ro_e h hi).1
    obtain ⟨a, b, a1, b1, f1, f2⟩ := hdig i hi
    refine ⟨q, a, b, hq, a1, b1, by rw [(h4 i hi).1]; exact eq, ?_, ?_⟩
    · rw [(h4 i hi).2.1, f1]; exact nI48
    · rw [(h4 i hi).2.2, f2]; exact nI48
  · rw [h5 i hi, slv]
    by_cases q : i < (z - 2) / 3
    · rw [if_neg (hs_k q (by omega)), if_pos q]
    · rw [if_pos (show hs (nI i) ((z - 2) / 3) = 0 from by rw [hs, if_neg (nI_pos (by omega)), if_pos (nI_le (by omega) (by omega))]), if_neg q]
  · -- one edge: its two nodes are 0 and 1
    obtain ⟨j0, p0, e0⟩ := nm_ex (x := nI (48 + 0)) h.2.2.1
    obtain ⟨j1, p1, e1'⟩ := nm_ex (x := nI (48 + 1)) h.2.2.2.1
    obtain ⟨i0, q0, r0⟩ := ro_dig h p0 (by decide) e0
    obtain ⟨i1, q1, r1⟩ := ro_dig h p1 (by decide) e1'
    have hne : ¬ j0 = j1 := fun w => by
      rw [w, e1'] at e0
      exact absurd e0 (by decide)
    have hno : ∀ a, 2 ≤ a → a < 5 → nmB pf (nI (48 + a)) z = 0 := fun a a1 a2 => nmB_0 z (fun j hj e => by
      obtain ⟨i, q, r⟩ := ro_dig h hj a2 e
      rcases (show j = j0 ∨ j = j1 by omega) with w | w
      · rw [w, e0] at e
        have := (nI_eq (by omega) (by omega)).mp e
        omega
      · rw [w, e1'] at e
        have := (nI_eq (by omega) (by omega)).mp e
        omega)
    have n2 : nmB pf 50 z = 0 := hno 2 (by decide) (by decide)
    have n3 : nmB pf 51 z = 0 := hno 3 (by decide) (by decide)
    have n4 : nmB pf 52 z = 0 := hno 4 (by decide) (by decide)
    unfold ndN
    rw [if_pos n2, if_pos n3, if_pos n4]
theorem ru_rq {pf : Nat → Int32} {z r : Nat} {ρ : Nat → RT} {a : Int32} {z2 r2 : Nat} {ρ2 : Nat → RT} (h : RuP pf z r ρ a z2 r2 ρ2) (hR : RRQ ρ r) : RRQ ρ2 r2 := by
  rcases h with ⟨-, -, -, rfl, rfl⟩ | ⟨-, -, -, -, rfl, rfl⟩ | ⟨h1, h2, -, -, rfl, h3, h4⟩
  · exact hR
  · exact hR
  · intro j hj
    by_cases h9 : j = r
    · subst h9; exact RQ_new h1 h3
    · rw [h4 j h9]; exact hR j (by omega)
theorem dr_rq {p : Int32} {r : Nat} {ρ : Nat → RT} {a : Int32} {r2 : Nat} {ρ2 : Nat → RT} (h : DrP p r ρ a r2 ρ2) (hR : RRQ ρ r) : RRQ ρ2 r2 := by
  rcases h with ⟨-, -, rfl, rfl⟩ | ⟨k, hk, -, -, rfl, rfl⟩
  · exact hR
  · intro j hj
    show RQ (ρ (sg k r j))
    apply hR
    unfold sg
    split
    · omega
    · split
      · omega
      · split <;> omega
theorem mq_of {ρ : Nat → RT} {ro re rn rg : Nat → Int32} {r : Nat} (h : RREL ρ ro re rn rg r) (hQ : RRQ ρ r) : MRQ ro re rn rg r := fun j hj => by
  obtain ⟨x1, x2, x3, e, w, y1, y2, y3, y4, y5, y6, y7⟩ := h j hj
  obtain ⟨o, e', w', a1, a2, a3, a4, a5, e1, e2, e3, -, -, -, -, b5⟩ := hQ j hj
  have ee : e = e' := (nI_eq (by omega) (by omega)).mp (y5.symm.trans (x2.trans e2))
  have ew : w = w' := (nI_eq (by omega) (by omega)).mp (y6.symm.trans (x3.trans e3))
  subst ee ew
  refine ⟨o, e, w, a1, a2, a3, a4, a5, x1.trans e1, y5, y6, fun i hi => ?_, b5⟩
  obtain ⟨q, a, b, c1, c2, c3, -, -, -, -, c4⟩ := y7 i hi
  exact ⟨q, a, b, c1, c2, c3, c4⟩
theorem os_up {n v : Nat} {g1 g2 g3 f : Nat → Int32} {ρ ρ2 : Nat → RT} {r r2 : Nat} {a b : Int32} (h : b = 0 ∨ (b = a ∧ r2 = r ∧ ρ2 = ρ)) (hL : ¬ a = 0 → OFin n v g1 g2 g3 ρ r f) : ¬ b = 0 → OFin n v g1 g2 g3 ρ2 r2 f := fun q => by
  rcases h with h | ⟨rfl, rfl, rfl⟩
  · exact absurd h q
  · exact hL q
theorem og_up {n v n2 v2 : Nat} {g1 g2 g3 y1 y2 y3 f : Nat → Int32} {ρ : Nat → RT} {r : Nat} {a b : Int32} (h : b = 0 ∨ (b = a ∧ n2 = n ∧ v2 = v ∧ y1 = g1 ∧ y2 = g2 ∧ y3 = g3)) (hL : ¬ a = 0 → OFin n v g1 g2 g3 ρ r f) : ¬ b = 0 → OFin n2 v2 y1 y2 y3 ρ r f := fun q => by
  rcases h with h | ⟨rfl, rfl, rfl, rfl, rfl, rfl⟩
  · exact absurd h q
  · exact hL q
theorem mo_up {n v : Nat} {ea ro re rn rg ro2 re2 rn2 rg2 f : Nat → Int32} {r r2 : Nat} {a b : Int32} (h : b = 0 ∨ (b = a ∧ r2 = r ∧ ro2 = ro ∧ re2 = re ∧ rn2 = rn ∧ rg2 = rg)) (hL : ¬ a = 0 → MOF n v ea ro re rn rg r f) : ¬ b = 0 → MOF n v ea ro2 re2 rn2 rg2 r2 f := fun q => by
  rcases h with h | ⟨rfl, rfl, rfl, rfl, rfl, rfl⟩
  · exact absurd h q
  · exact hL q
theorem mg_up {n v n2 v2 : Nat} {ea ea2 ro re rn rg f : Nat → Int32} {r : Nat} {a b : Int32} (h : b = 0 ∨ (b = a ∧ n2 = n ∧ v2 = v ∧ ea2 = ea)) (hL : ¬ a = 0 → MOF n v ea ro re rn rg r f) : ¬ b = 0 → MOF n2 v2 ea2 ro re rn rg r f := fun q => by
  rcases h with h | ⟨rfl, rfl, rfl, rfl⟩
  · exact absurd h q
  · exact hL q
/-- graphs and rules that are the same as far as they go -/
def GEq (g g2 : GG) : Prop := zE g2 = zE g ∧ zN g2 = zN g ∧ ∀ i, i < zE g → zL g2 i = zL g i ∧ zF g2 i = zF g i ∧ zT g2 i = zT g i
def REq (r r2 : GR) : Prop := yM r2 = yM r ∧ ∀ j, j < yM r → yO r2 j = yO r j ∧ yS r2 j = yS r j ∧ yW r2 j = yW r j ∧ ∀ i, i < yS r j → yL r2 j i = yL r j i ∧ yF r2 j i = yF r j i ∧ yT r2 j i = yT r j i
theorem GEq_s {g g2 : GG} (h : GEq g g2) : GEq g2 g := ⟨h.1.symm, h.2.1.symm, fun i hi => by
  obtain ⟨a, b, c⟩ := h.2.2 i (by rw [← h.1]; exact hi)
  exact ⟨a.symm, b.symm, c.symm⟩⟩
theorem REq_s {r r2 : GR} (h : REq r r2) : REq r2 r := ⟨h.1.symm, fun j hj => by
  obtain ⟨a, b, c, d⟩ := h.2 j (by rw [← h.1]; exact hj)
  refine ⟨a.symm, b.symm, c.symm, fun i hi => ?_⟩
  obtain ⟨x, y, z⟩ := d i (by rw [← b]; exact hi)
  exact ⟨x.symm, y.symm, z.symm⟩⟩
theorem zNd_cg {g g2 : GG} (h : GEq g g2) {S v : Nat} (q : zNd g2 S v) : zNd g S v := by
  obtain ⟨i, h1, h2, h3⟩ := q
  have h1' : i < zE g := by rw [← h.1]; exact h1
  obtain ⟨-, b, c⟩ := h.2.2 i h1'
  rw [b, c] at h3
  exact ⟨i, h1', h2, h3⟩
theorem zEd_cg {g g2 : GG} (h : GEq g g2) {S a s t : Nat} (q : zEd g S a s t) : zEd g2 S a s t := by
  obtain ⟨i, h1, h2, h3, h4, h5⟩ := q
  obtain ⟨a, b, c⟩ := h.2.2 i h1
  exact ⟨i, by rw [h.1]; exact h1, h2, a.trans h3, b.trans h4, c.trans h5⟩
theorem zR_cg {g g2 : GG} {r r2 : GR} (hg : GEq g g2) (hr : REq r r2) : ∀ {k a S s t n : Nat}, zR g r k a S s t n → zR g2 r2 k a S s t n := by
  intro k
  induction k with
  | zero => intro a S s t n h; exact h.elim
  | succ k ih =>
    intro a S s t n h
    obtain ⟨h1, j, d, p, c, ⟨a1, a2, a3, a4, a5, a6, a7, a8⟩, h3⟩ := h
    obtain ⟨b1, b2, b3, b4⟩ := hr.2 j a1
    refine ⟨h1, j, d, p, c, ⟨by rw [hr.1]; exact a1, b1.trans a2, a3, a4, by rw [b3, hg.2.1]; exact a5, a6, fun i hi => ?_, a8⟩, fun i i2 hi hi2 hne v q1 q2 => ?_⟩
    · rcases a7 i hi with ⟨w1, w2, w3⟩ | ⟨w1, w2, w3⟩
      · exact Or.inl ⟨by rw [b2]; exact w1, w2, w3⟩
      · obtain ⟨x, y, z⟩ := b4 i w1
        refine Or.inr ⟨by rw [b2]; exact w1, w2, ?_⟩
        rw [x, y, z]
        rcases w3 with ⟨u1, u2⟩ | ⟨u1, u2, u3⟩
        · exact Or.inl ⟨u1, ih u2⟩
        · exact Or.inr ⟨u1, u2, zEd_cg hg u3⟩
    · have w := h3 i i2 hi hi2 hne v (zNd_cg hg q1) (zNd_cg hg q2)
      rcases a7 i hi with ⟨-, w2, -⟩ | ⟨w1, -, -⟩
      · rw [w2] at q1
        exact (zNd_0 q1).elim
      · obtain ⟨-, y, z⟩ := b4 i w1
        rw [y, z]
        exact w
theorem geq_of {g1 g2 g3 ea : Nat → Int32} {n v : Nat} (hv : v ≤ 5) (h : FREL g1 g2 g3 ea n v) : GEq (gC n v g1 g2 g3) (gM n v ea) := ⟨rfl, rfl, fun i hi => by
  obtain ⟨q, a, b, h1, h2, h3, -, e1, e2, e3, e4⟩ := h i hi
  show tn (ea i) / 100 = tn (g1 i) ∧ tn (ea i) / 10 % 10 = tn (g2 i) ∧ tn (ea i) % 10 = tn (g3 i)
  rw [e1, e2, e3, e4, tn_nI (by omega), tn_nI (by omega), tn_nI (by omega), tn_nI (by omega)]
  omega⟩
theorem ed_tn {x : Int32} {q a b : Nat} (hq : q < 5) (ha : a < 10) (hb : b < 10) (e : x = nI (100 * q + 10 * a + b)) : tn x / 100 = q ∧ tn x / 10 % 10 = a ∧ tn x % 10 = b := by
  have h : tn x = 100 * q + 10 * a + b := by rw [e, tn_nI (by omega)]
  omega
theorem tn_of {x : Int32} {q : Nat} (hq : q < 100) (e : x = nI q) : tn x = q := by rw [e, tn_nI (by omega)]
theorem yO_M {ro re rn rg : Nat → Int32} {r j : Nat} : yO (rMd r ro re rn rg) j = tn (ro j) := rfl
theorem yO_C {ρ : Nat → RT} {r j : Nat} : yO (rC ρ r) j = tn (ρ j).2.1.1 := rfl
theorem yS_M {ro re rn rg : Nat → Int32} {r j : Nat} : yS (rMd r ro re rn rg) j = tn (re j) := rfl
theorem yS_C {ρ : Nat → RT} {r j : Nat} : yS (rC ρ r) j = tn (ρ j).2.1.2.1 := rfl
theorem yW_M {ro re rn rg : Nat → Int32} {r j : Nat} : yW (rMd r ro re rn rg) j = tn (rn j) := rfl
theorem yW_C {ρ : Nat → RT} {r j : Nat} : yW (rC ρ r) j = tn (ρ j).2.1.2.2 := rfl
theorem yL_M {ro re rn rg : Nat → Int32} {r j i : Nat} : yL (rMd r ro re rn rg) j i = tn (rg (3 * j + i)) / 100 := rfl
theorem yL_C {ρ : Nat → RT} {r j i : Nat} : yL (rC ρ r) j i = tn ((ρ j).2.2.1 i) := rfl
theorem yF_M {ro re rn rg : Nat → Int32} {r j i : Nat} : yF (rMd r ro re rn rg) j i = tn (rg (3 * j + i)) / 10 % 10 := rfl
theorem yF_C {ρ : Nat → RT} {r j i : Nat} : yF (rC ρ r) j i = tn ((ρ j).2.2.2.1 i) := rfl
theorem yT_M {ro re rn rg : Nat → Int32} {r j i : Nat} : yT (rMd r ro re rn rg) j i = tn (rg (3 * j + i)) % 10 := rfl
theorem yT_C {ρ : Nat → RT} {r j i : Nat} : yT (rC ρ r) j i = tn ((ρ j).2.2.2.2.1 i) := rfl
theorem yM_M {ro re rn rg : Nat → Int32} {r : Nat} : yM (rMd r ro re rn rg) = r := rfl
theorem yM_C {ρ : Nat → RT} {r : Nat} : yM (rC ρ r) = r := rfl
theorem req_of {ρ : Nat → RT} {ro re rn rg : Nat → Int32} {r : Nat} (h : RREL ρ ro re rn rg r) : REq (rC ρ r) (rMd r ro re rn rg) := by
  refine ⟨yM_M.trans yM_C.symm, fun j hj => ?_⟩
  rw [yM_C] at hj
  obtain ⟨x1, x2, x3, e, w, y1, y2, y3, y4, y5, y6, y7⟩ := h j hj
  have hS : yS (rC ρ r) j = e := by rw [yS_C]; exact tn_of (by omega) (x2.symm.trans y5)
  refine ⟨by rw [yO_M, yO_C, x1], by rw [yS_M, yS_C, x2], by rw [yW_M, yW_C, x3], fun i hi => ?_⟩
  rw [hS] at hi
  obtain ⟨q, a, b, h1, h2, h3, -, e1, e2, e3, e4⟩ := y7 i hi
  obtain ⟨u1, u2, u3⟩ := ed_tn h1 (by omega) (by omega) e4
  rw [yL_M, yL_C, yF_M, yF_C, yT_M, yT_C, u1, u2, u3, tn_of (by omega) e1, tn_of (by omega) e2, tn_of (by omega) e3]
  exact ⟨rfl, rfl, rfl⟩
/-- the numbers of both sides at the whole graph -/
theorem few_eq {g1 g2 g3 ea : Nat → Int32} {n v : Nat} {ρ : Nat → RT} {ro re rn rg f f2 : Nat → Int32} {r k : Nat} (hk : k < 3) (hn1 : 1 ≤ n) (hv2 : 2 ≤ v) (hF : FREL g1 g2 g3 ea n v) (hR : RREL ρ ro re rn rg r) (hQ : RRQ ρ r) (hO : OFin n v g1 g2 g3 ρ r f) (hM : MOF n v ea ro re rn rg r f2) : (if tbl f k (2 ^ n - 1) 0 1 < zF9 then nI (tbl f k (2 ^ n - 1) 0 1) else -1) = (if trb f2 k (2 ^ n - 1) 0 1 < zM9 then nI (trb f2 k (2 ^ n - 1) 0 1) else (-1 : Int32)) := by
  obtain ⟨hn5, hv5, hT, hSo, hEx⟩ := hO
  have h32 := pow_le5 hn5
  have h2 : 2 ≤ 2 ^ n := Nat.le_trans (by decide : 2 ≤ 2 ^ 1) (Nat.pow_le_pow_right (by decide) hn1)
  have hM9 : zM9 = 1000000 := rfl
  have hF9 : zF9 = 536870912 := rfl
  have hW := rC_wf hQ
  have hg := geq_of hv5 hF
  have hr := req_of hR
  obtain ⟨m1, m2⟩ := hM.2.2 (2 ^ n - 1) (by omega) (by omega) k 0 1 hk (show 0 < v by omega) (show 1 < v by omega)
  have up : tbl f k (2 ^ n - 1) 0 1 < zF9 → trb f2 k (2 ^ n - 1) 0 1 ≤ tbl f k (2 ^ n - 1) 0 1 ∧ trb f2 k (2 ^ n - 1) 0 1 < zM9 := fun q => by
    obtain ⟨kk, hC⟩ := hSo k (2 ^ n - 1) 0 1 hk (by omega) (by decide) (by decide) q
    obtain ⟨k3, n3, w1, w2⟩ := zFe_all hW (2 ^ n - 1) kk k 0 1 _ hk hC
    have z1 := m2 _ _ (zR_cg hg hr (zC_R hC))
    have z2 := m2 _ _ (zR_cg hg hr (zC_R w2))
    omega
  have dn : trb f2 k (2 ^ n - 1) 0 1 < zM9 → tbl f k (2 ^ n - 1) 0 1 ≤ trb f2 k (2 ^ n - 1) 0 1 := fun q => by
    obtain ⟨kk, hR9⟩ := m1 q
    have hR8 := zR_cg (GEq_s hg) (REq_s hr) hR9
    have hP := zP_all hW (S := 2 ^ n - 1) (fun i hi => by
      have hi : i < n := hi
      rw [Nat.testBit_two_pow_sub_one]
      exact decide_eq_true hi) hR8
    exact hEx (2 ^ n - 1) (by omega) k 0 1 hk _ _ (zR_C hW hR8 hP)
  by_cases q : tbl f k (2 ^ n - 1) 0 1 < zF9
  · obtain ⟨u1, u2⟩ := up q
    have u3 := dn u2
    rw [if_pos q, if_pos u2, show tbl f k (2 ^ n - 1) 0 1 = trb f2 k (2 ^ n - 1) 0 1 by omega]
  · rw [if_neg q, if_neg (fun w => by have := dn w; omega)]
theorem fe_rel {p a b : Int32} {g1 g2 g3 ea : Nat → Int32} {n v : Nat} {ρ : Nat → RT} {ro re rn rg : Nat → Int32} {r : Nat} (hf : FgI n v) (hF : FREL g1 g2 g3 ea n v) (hR : RREL ρ ro re rn rg r) (hQ : RRQ ρ r) (h : FeC p n v g1 g2 g3 ρ r a) (h2 : FeM p n v ea ro re rn rg r b) : a = b := by
  have e : isD g1 n = mDn ea n := by
    unfold isD mDn
    rw [op_rel hf.2.1 n hF]
  have hk0 : ∀ k, k < 3 → ¬ wi (nI k) 0 2 = 0 := fun k hk => by
    rcases (show k = 0 ∨ k = 1 ∨ k = 2 by omega) with e | e | e <;> subst e <;> decide
  unfold FeC at h
  rw [opn_wi] at h
  rcases h with ⟨h1, rfl⟩ | ⟨h1, h3, rfl⟩ | ⟨k, f, hk, rfl, h1, hO, rfl⟩
  · rcases h2 with ⟨-, rfl⟩ | ⟨w1, -⟩ | ⟨k, f2, hk, rfl, -⟩
    · rfl
    · exact absurd h1 w1
    · exact absurd h1 (hk0 k hk)
  · rcases h2 with ⟨w1, -⟩ | ⟨-, -, rfl⟩ | ⟨k, f2, hk, rfl, w1, -, -, w2, -⟩
    · exact absurd w1 h1
    · rfl
    · rw [e] at h3
      have := w2.1
      have := w2.2.1
      rcases h3 with h3 | h3 | h3
      · exact absurd h3 w1
      · omega
      · omega
  · rcases h2 with ⟨w1, -⟩ | ⟨-, w1, -⟩ | ⟨k2, f2, hk2, w0, w1, hn1, w2, w3, rfl⟩
    · exact absurd w1 (hk0 k hk)
    · rw [e] at h1
      have := hO.1
      have := hO.2.1
      rcases w1 with w1 | w1 | w1
      · exact absurd w1 h1
      · omega
      · omega
    · have := (nI_eq (by omega) (by omega)).mp w0
      subst this
      have hv2 : 2 ≤ v := by
        rcases hf.2.2 with q | q
        · omega
        · exact q
      exact few_eq hk hn1 hv2 hF hR hQ hO w3
