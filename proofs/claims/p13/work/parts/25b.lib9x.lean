/-! the reading of a text, just as it is -/
theorem cL_wi {c : Int32} (h : ¬ wi c 65 67 = 0) : cL c = c - 65 := by
  obtain ⟨h1, h2⟩ := wi_p h
  rw [cL, if_neg h1, if_neg h2]
theorem cL_nwi {c : Int32} (h : wi c 65 67 = 0) (h97 : ¬ c = 97) (h98 : ¬ c = 98) : cL c = -1 := by
  unfold wi at h
  unfold cL
  by_cases h1 : c < 65
  · rw [if_pos h1, if_neg h97, if_neg h98]
  · rw [if_neg h1] at h ⊢
    by_cases h2 : 67 < c
    · rw [if_pos h2, if_neg h97, if_neg h98]
    · rw [if_neg h2] at h
      exact absurd h (by decide)
theorem cL_neg (c : Int32) : cL c < 0 ↔ cL c = -1 := by
  constructor
  · intro h
    by_cases h1 : wi c 65 67 = 0
    · by_cases h97 : c = 97
      · subst h97; exact absurd h (by decide)
      · by_cases h98 : c = 98
        · subst h98; exact absurd h (by decide)
        · exact cL_nwi h1 h97 h98
    · obtain ⟨k, k1, k2, e⟩ := wi_rng (a := 65) (b := 67) (by decide) (by decide) h1
      rw [cL_wi h1, e, show nI k - 65 = nI (k - 65) from pk_sub (a := k) (b := 65) k1] at h
      exact absurd h (nI_pos (by omega))
  · intro h
    rw [h]
    decide
theorem nI3 {k : Nat} (hk : k < 1000) : nI k < 3 ↔ k < 3 := nI_ltI (b := 3) (by omega) (by decide)
/-- the letter of a graph's text -/
def lA1 (c : Int32) : Int32 := if cL c < 3 then -1 else cL c
theorem lA1_n {c : Int32} (h97 : ¬ c = 97) (h98 : ¬ c = 98) : lA1 c = -1 := by
  by_cases h1 : wi c 65 67 = 0
  · rw [lA1, cL_nwi h1 h97 h98, if_pos (by decide)]
  · obtain ⟨k, k1, k2, e⟩ := wi_rng (a := 65) (b := 67) (by decide) (by decide) h1
    have e2 : cL c = nI (k - 65) := by rw [cL_wi h1, e]; exact pk_sub (a := k) (b := 65) k1
    rw [lA1, e2, if_pos ((nI3 (by omega)).mpr (by omega))]
theorem lA1_y {c : Int32} (h : ¬ lA1 c = -1) : lA1 c = cL c ∧ ¬ cL c < 3 := by
  unfold lA1 at h ⊢
  by_cases h1 : cL c < 3
  · rw [if_pos h1] at h; exact absurd rfl h
  · rw [if_neg h1]; exact ⟨rfl, h1⟩
theorem lA1_3 {c : Int32} (h : lA1 c = -1) : cL c < 3 := by
  unfold lA1 at h
  by_cases h1 : cL c < 3
  · exact h1
  · rw [if_neg h1] at h
    rw [h] at h1
    exact absurd (by decide) h1
theorem cL_k {c : Int32} (h : ¬ cL c = -1) : ∃ k, k < 5 ∧ cL c = nI k := cL_rng (fun q => h ((cL_neg c).mp q))
/-- an edge of a text at a place, as a number -/
def EX (pf : Nat → Int32) (p d : Nat) (x : Int32) : Prop := ∃ k a b, k < 5 ∧ a < d ∧ b < d ∧ ¬ a = b ∧ cL (pf p) = nI k ∧ pf (p + 1) = nI (48 + a) ∧ pf (p + 2) = nI (48 + b) ∧ x = nI (100 * k + 10 * a + b)
/-- what is read of a text ahead of place i: q edges, the stage s of the one at hand; w has the nodes' bits -/
def TX (h L d : Nat) (pf : Nat → Int32) (i q s w : Nat) (nw : Int32) (ne : Nat → Int32) : Prop :=
  ((i < h ∧ q = 0 ∧ s = 0) ∨ i = h + 3 * q + s) ∧ s ≤ 2 ∧ q ≤ L ∧ (s = 0 ∨ q < L) ∧ w < 2 ^ d ∧
  (s = 1 → ∃ k, k < 5 ∧ cL (pf (i - 1)) = nI k ∧ nw = nI k) ∧
  (s = 2 → ∃ k a, k < 5 ∧ a < d ∧ cL (pf (i - 2)) = nI k ∧ pf (i - 1) = nI (48 + a) ∧ nw = nI (10 * k + a)) ∧
  (∀ j, j < q → EX pf (h + 3 * j) d (ne j)) ∧
  ∀ a, a < 5 → (w.testBit a = true ↔ ∃ j, j < i ∧ pf j = nI (48 + a))
def TXo (h L d : Nat) (pf : Nat → Int32) (i : Nat) (mn st nd nw : Int32) (ne : Nat → Int32) : Prop := ∃ q s w, mn = nI q ∧ st = nI s ∧ nd = nI w ∧ TX h L d pf i q s w nw ne
theorem TX_zero {h L d : Nat} {pf : Nat → Int32} {nw : Int32} {ne : Nat → Int32} : TX h L d pf 0 0 0 0 nw ne := by
  refine ⟨?_, by omega, by omega, Or.inl rfl, Nat.two_pow_pos d, fun q => absurd q (by decide), fun q => absurd q (by decide), fun j hj => absurd hj (by omega), fun a _ => ?_⟩
  · rcases Nat.eq_zero_or_pos h with q | q
    · exact Or.inr (by omega)
    · exact Or.inl ⟨q, rfl, rfl⟩
  · rw [Nat.zero_testBit]
    exact ⟨fun q => absurd q (by decide), fun ⟨j, hj, _⟩ => absurd hj (by omega)⟩
theorem dig_cL {a : Nat} (ha : a < 5) : cL (nI (48 + a)) = -1 := by
  rcases (show a = 0 ∨ a = 1 ∨ a = 2 ∨ a = 3 ∨ a = 4 by omega) with rfl | rfl | rfl | rfl | rfl <;> decide
theorem bits_no {pf : Nat → Int32} {w i : Nat} (h : ∀ a, a < 5 → (w.testBit a = true ↔ ∃ j, j < i ∧ pf j = nI (48 + a))) (hn : ∀ a, a < 5 → ¬ pf i = nI (48 + a)) : ∀ a, a < 5 → (w.testBit a = true ↔ ∃ j, j < i + 1 ∧ pf j = nI (48 + a)) := fun a ha => by
  rw [h a ha]
  constructor
  · rintro ⟨j, hj, e⟩
    exact ⟨j, by omega, e⟩
  · rintro ⟨j, hj, e⟩
    refine ⟨j, ?_, e⟩
    rcases Nat.lt_or_ge j i with q | q
    · exact q
    · have : j = i := by omega
      subst this
      exact absurd e (hn a ha)
theorem bits_yes {pf : Nat → Int32} {w i b : Nat} (h : ∀ a, a < 5 → (w.testBit a = true ↔ ∃ j, j < i ∧ pf j = nI (48 + a))) (hb : b < 5) (hi : pf i = nI (48 + b)) : ∀ a, a < 5 → ((w ||| 2 ^ b).testBit a = true ↔ ∃ j, j < i + 1 ∧ pf j = nI (48 + a)) := fun a ha => by
  rw [Nat.testBit_or, Bool.or_eq_true, h a ha, Nat.testBit_two_pow, decide_eq_true_iff]
  constructor
  · rintro (⟨j, hj, e⟩ | e)
    · exact ⟨j, by omega, e⟩
    · subst e
      exact ⟨i, by omega, hi⟩
  · rintro ⟨j, hj, e⟩
    rcases Nat.lt_or_ge j i with q | q
    · exact Or.inl ⟨j, q, e⟩
    · have : j = i := by omega
      subst this
      rw [hi] at e
      have := (nI_eq (by omega) (by omega)).mp e
      exact Or.inr (by omega)
theorem TX_h {L d : Nat} {pf : Nat → Int32} {i q s w : Nat} {nw : Int32} {ne : Nat → Int32} (hX : TX 2 L d pf i q s w nw ne) (hi : i < 2) (hn : ∀ a, a < 5 → ¬ pf i = nI (48 + a)) : TX 2 L d pf (i + 1) q s w nw ne := by
  obtain ⟨h1, h2, h3, h4, h5, -, -, h8, h9⟩ := hX
  have hq : q = 0 ∧ s = 0 := by
    rcases h1 with ⟨_, a, b⟩ | a
    · exact ⟨a, b⟩
    · omega
  obtain ⟨rfl, rfl⟩ := hq
  refine ⟨?_, h2, h3, h4, h5, fun q => absurd q (by decide), fun q => absurd q (by decide), h8, bits_no h9 hn⟩
  rcases (show i = 0 ∨ i = 1 by omega) with rfl | rfl
  · exact Or.inl ⟨by omega, rfl, rfl⟩
  · exact Or.inr rfl
theorem TX_0 {h L d : Nat} {pf : Nat → Int32} {i q w k : Nat} {nw : Int32} {ne : Nat → Int32} (hX : TX h L d pf i q 0 w nw ne) (hi : h ≤ i) (hk : k < 5) (e : cL (pf i) = nI k) (hq : q < L) : TX h L d pf (i + 1) q 1 w (nI k) ne := by
  obtain ⟨h1, h2, h3, h4, h5, -, -, h8, h9⟩ := hX
  refine ⟨Or.inr (by omega), by omega, h3, Or.inr hq, h5, fun _ => ⟨k, hk, e, rfl⟩, fun q => absurd q (by decide), h8, bits_no h9 (fun a ha q => ?_)⟩
  rw [q, dig_cL ha] at e
  exact absurd e.symm (nI_nm1 (by omega))
theorem TX_1 {h L d : Nat} {pf : Nat → Int32} {i q w k a : Nat} {nw : Int32} {ne : Nat → Int32} (hX : TX h L d pf i q 1 w nw ne) (hi : h ≤ i) (hd : d ≤ 5) (ha : a < d) (hk : k < 5) (e : nw = nI k) (ei : pf i = nI (48 + a)) : TX h L d pf (i + 1) q 2 (w ||| 2 ^ a) (nI (10 * k + a)) ne := by
  obtain ⟨h1, h2, h3, h4, h5, h6, -, h8, h9⟩ := hX
  obtain ⟨k2, hk2, e2, e3⟩ := h6 rfl
  clear h6
  have hkk : k2 = k := (nI_eq (by omega) (by omega)).mp (e3.symm.trans e)
  subst hkk
  refine ⟨Or.inr (by omega), by omega, h3, by omega, Nat.or_lt_two_pow h5 (Nat.pow_lt_pow_right (by decide) ha), fun q => absurd q (by decide), fun _ => ⟨k2, a, hk2, ha, e2, ei, rfl⟩, h8, bits_yes h9 (by omega) ei⟩
theorem TX_2 {h L d : Nat} {pf : Nat → Int32} {i q w k a b : Nat} {nw : Int32} {ne : Nat → Int32} (hX : TX h L d pf i q 2 w nw ne) (hi : h ≤ i) (hd : d ≤ 5) (ha : a < d) (hb : b < d) (hk : k < 5) (e : nw = nI (10 * k + a)) (ei : pf i = nI (48 + b)) (hn : ¬ b = a) : TX h L d pf (i + 1) (q + 1) 0 (w ||| 2 ^ b) (nI (10 * (10 * k + a) + b)) (upd ne q (nI (10 * (10 * k + a) + b))) := by
  obtain ⟨h1, h2, h3, h4, h5, -, h7, h8, h9⟩ := hX
  obtain ⟨k2, a2, hk2, ha2, e2, e3, e4⟩ := h7 rfl
  clear h7
  have hkk : 10 * k2 + a2 = 10 * k + a := (nI_eq (by omega) (by omega)).mp (e4.symm.trans e)
  obtain ⟨rfl, rfl⟩ : k2 = k ∧ a2 = a := by omega
  have hip : i = h + 3 * q + 2 := by omega
  refine ⟨Or.inr (by omega), by omega, by omega, Or.inl rfl, Nat.or_lt_two_pow h5 (Nat.pow_lt_pow_right (by decide) hb), fun q => absurd q (by decide), fun q => absurd q (by decide), fun j hj => ?_, bits_yes h9 (by omega) ei⟩
  by_cases h10 : j = q
  · subst h10
    rw [pk_us]
    refine ⟨k2, a2, b, hk2, ha2, hb, fun q => hn q.symm, ?_, ?_, ?_, ?_⟩
    · rw [show h + 3 * j = i - 2 by omega]; exact e2
    · rw [show h + 3 * j + 1 = i - 1 by omega]; exact e3
    · rw [show h + 3 * j + 2 = i by omega]; exact ei
    · rw [show 10 * (10 * k2 + a2) + b = 100 * k2 + 10 * a2 + b by omega]
  · rw [pk_un h10]
    exact h8 j (by omega)
theorem or_shlx {w d k : Nat} (hw : w < 2 ^ d) (hd : d ≤ 5) (hk : k < d) : nI w ||| ((1 : Int32) <<< (nI k &&& 31)) = nI (w ||| 2 ^ k) := by
  have h5 : 2 ^ d ≤ 32 := pow_le5 hd
  have : ∀ w, w < 32 → ∀ k, k < 5 → nI w ||| ((1 : Int32) <<< (nI k &&& 31)) = nI (w ||| 2 ^ k) := by decide +kernel
  exact this w (by omega) k (by omega)
theorem wi_48 {c : Int32} {n : Nat} (hn : n < 1000) : (¬ c < 48 ∧ ¬ nI n < c) ↔ ¬ wi c 48 (nI n) = 0 := by
  constructor
  · rintro ⟨a, b⟩
    rw [wi, if_neg a, if_neg b]
    decide
  · exact wi_p
theorem okE0_0 {pf : Nat → Int32} {i q : Nat} (hi : i = 2 + 3 * q) : okF0 pf i ↔ ¬ cL (pf i) = -1 ∧ q < 3 := by
  unfold okF0
  rw [if_neg (by omega), show (i - 2) % 3 = 0 by omega, fE0, if_pos (show nI 0 = 0 from rfl), ← cL_neg]
  by_cases h : cL (pf i) < 0
  · rw [if_pos h]
    exact ⟨fun q => absurd rfl q.2, fun q => absurd h q.1⟩
  · rw [if_neg h]
    exact ⟨fun q => ⟨h, by omega⟩, fun q => ⟨by omega, by decide⟩⟩
theorem okE0_1 {pf : Nat → Int32} {i q : Nat} (hi : i = 2 + 3 * q + 1) (hq : q < 3) : okF0 pf i ↔ ¬ wi (pf i) 48 51 = 0 := by
  unfold okF0
  rw [if_neg (by omega), show (i - 2) % 3 = 1 by omega, fE0, if_neg (show ¬ nI 1 = 0 from by decide), if_pos (show nI 1 = 1 from rfl), wi]
  exact ⟨fun q => q.2, fun q => ⟨by omega, q⟩⟩
theorem okE0_2 {pf : Nat → Int32} {i q : Nat} (hi : i = 2 + 3 * q + 2) (hq : q < 3) : okF0 pf i ↔ ¬ wi (pf i) 48 51 = 0 ∧ ¬ pf i = pf (i - 1) := by
  unfold okF0
  rw [if_neg (by omega), show (i - 2) % 3 = 2 by omega, fE0, if_neg (show ¬ nI 2 = 0 from by decide), if_neg (show ¬ nI 2 = 1 from by decide), wi]
  by_cases h1 : pf i < 48
  · rw [if_pos h1, if_pos h1]
    exact ⟨fun q => absurd rfl q.2, fun q => absurd rfl q.1⟩
  · rw [if_neg h1, if_neg h1]
    by_cases h2 : 51 < pf i
    · rw [if_pos h2, if_pos h2]
      exact ⟨fun q => absurd rfl q.2, fun q => absurd rfl q.1⟩
    · rw [if_neg h2, if_neg h2]
      by_cases h3 : pf i = pf (i - 1)
      · rw [if_pos h3]
        exact ⟨fun q => absurd rfl q.2, fun q => absurd h3 q.2⟩
      · rw [if_neg h3]
        exact ⟨fun _ => ⟨by decide, h3⟩, fun _ => ⟨by omega, by decide⟩⟩
theorem okE1_0 {pf : Nat → Int32} {i q : Nat} (hi : i = 0 + 3 * q) : okF1 pf i ↔ ¬ lA1 (pf i) = -1 ∧ q < 5 := by
  unfold okF1
  rw [show i % 3 = 0 by omega, fE1, if_pos (show nI 0 = 0 from rfl)]
  by_cases h : cL (pf i) < 3
  · rw [if_pos h, lA1, if_pos h]
    exact ⟨fun q => absurd rfl q.2, fun q => absurd rfl q.1⟩
  · rw [if_neg h, lA1, if_neg h]
    refine ⟨fun q => ⟨fun e => h ?_, by omega⟩, fun q => ⟨by omega, by decide⟩⟩
    rw [e]; decide
theorem okE1_1 {pf : Nat → Int32} {i q : Nat} (hi : i = 0 + 3 * q + 1) (hq : q < 5) : okF1 pf i ↔ ¬ wi (pf i) 48 52 = 0 := by
  unfold okF1
  rw [show i % 3 = 1 by omega, fE1, if_neg (show ¬ nI 1 = 0 from by decide), if_pos (show nI 1 = 1 from rfl), wi]
  exact ⟨fun q => q.2, fun q => ⟨by omega, q⟩⟩
theorem okE1_2 {pf : Nat → Int32} {i q : Nat} (hi : i = 0 + 3 * q + 2) (hq : q < 5) : okF1 pf i ↔ ¬ wi (pf i) 48 52 = 0 ∧ ¬ pf i = pf (i - 1) := by
  unfold okF1
  rw [show i % 3 = 2 by omega, fE1, if_neg (show ¬ nI 2 = 0 from by decide), if_neg (show ¬ nI 2 = 1 from by decide), wi]
  by_cases h1 : pf i < 48
  · rw [if_pos h1, if_pos h1]
    exact ⟨fun q => absurd rfl q.2, fun q => absurd rfl q.1⟩
  · rw [if_neg h1, if_neg h1]
    by_cases h2 : 52 < pf i
    · rw [if_pos h2, if_pos h2]
      exact ⟨fun q => absurd rfl q.2, fun q => absurd rfl q.1⟩
    · rw [if_neg h2, if_neg h2]
      by_cases h3 : pf i = pf (i - 1)
      · rw [if_pos h3]
        exact ⟨fun q => absurd rfl q.2, fun q => absurd h3 q.2⟩
      · rw [if_neg h3]
        exact ⟨fun _ => ⟨by decide, h3⟩, fun _ => ⟨by omega, by decide⟩⟩
theorem okH0 {pf : Nat → Int32} : okF0 pf 0 ↔ ¬ wi (pf 0) 65 67 = 0 := by
  unfold okF0
  rw [if_pos (show (0 : Nat) < 2 from by decide), fH, if_pos (show nI 0 = 0 from rfl)]
  by_cases h1 : wi (pf 0) 65 67 = 0
  · refine ⟨fun q => absurd ?_ q.2, fun q => absurd h1 q⟩
    by_cases h97 : pf 0 = 97
    · rw [h97]; decide
    · by_cases h98 : pf 0 = 98
      · rw [h98]; decide
      · rw [cL_nwi h1 h97 h98]; decide
  · obtain ⟨k, k1, k2, e⟩ := wi_rng (a := 65) (b := 67) (by decide) (by decide) h1
    refine ⟨fun _ => h1, fun _ => ⟨by decide, ?_⟩⟩
    rw [cL_wi h1, e]
    rcases (show k = 65 ∨ k = 66 ∨ k = 67 by omega) with rfl | rfl | rfl <;> decide
theorem okH1 {pf : Nat → Int32} : okF0 pf 1 ↔ pf 1 = 61 := by
  unfold okF0
  rw [if_pos (show (1 : Nat) < 2 from by decide), fH, if_neg (show ¬ nI 1 = 0 from by decide)]
  by_cases h : pf 1 = 61
  · rw [if_pos h]; exact ⟨fun _ => h, fun _ => ⟨by decide, by decide⟩⟩
  · rw [if_neg h]; exact ⟨fun q => absurd rfl q.2, fun q => absurd q h⟩
theorem nd_65 {c : Int32} (h : ¬ wi c 65 67 = 0) : ∀ a, a < 5 → ¬ c = nI (48 + a) := fun a ha q => by
  obtain ⟨k, k1, k2, e⟩ := wi_rng (a := 65) (b := 67) (by decide) (by decide) h
  have := (nI_eq (by omega) (by omega)).mp (e.symm.trans q)
  omega
theorem nd_61 {c : Int32} (h : c = 61) : ∀ a, a < 5 → ¬ c = nI (48 + a) := fun a ha q => by
  have := (nI_eq (a := 61) (by omega) (by omega)).mp (h.symm.trans q)
  omega
/-- a whole text -/
def WH0 (pf : Nat → Int32) (z : Nat) : Prop := ¬ iW 2 z = 0 ∧ FF (okF0 pf) z z
def WH1 (pf : Nat → Int32) (z : Nat) : Prop := ¬ iW 0 z = 0 ∧ FF (okF1 pf) z z
theorem iW_i {h z : Nat} (h1 : h < z) (h2 : (z - h) % 3 = 0) : ¬ iW h z = 0 := by
  rw [iW, if_pos ⟨h1, h2⟩]; decide
/-- the nodes' bits against the names on the page -/
theorem bit_nm {pf : Nat → Int32} {w z a : Nat} (h : ∀ a, a < 5 → (w.testBit a = true ↔ ∃ j, j < z ∧ pf j = nI (48 + a))) (ha : a < 5) : w.testBit a = true ↔ ¬ nmB pf (nI (48 + a)) z = 0 := by
  rw [h a ha]
  constructor
  · rintro ⟨j, hj, e⟩
    rw [nmB_1 e z hj]; decide
  · intro q
    by_cases h9 : ∃ j, j < z ∧ pf j = nI (48 + a)
    · exact h9
    · exact absurd (nmB_0 z (fun j hj e => h9 ⟨j, hj, e⟩)) q
def tB (w k : Nat) : Int32 := if w.testBit k = true then 1 else 0
theorem shr_n {w k : Nat} (hw : w < 512) (hk : k < 9) : nI w >>> (nI k &&& 31) = nI (w / 2 ^ k) := by
  have hs : (nI k &&& 31).toBitVec.toNat = k := by
    rcases (show k = 0 ∨ k = 1 ∨ k = 2 ∨ k = 3 ∨ k = 4 ∨ k = 5 ∨ k = 6 ∨ k = 7 ∨ k = 8 by omega) with rfl | rfl | rfl | rfl | rfl | rfl | rfl | rfl | rfl <;> decide
  have : ∀ w, w < 512 → ∀ k, k < 9 → nI w >>> (nI k &&& 31) = nI (w / 2 ^ k) := by decide +kernel
  exact this w hw k hk
theorem and1_n (x : Nat) : nI x &&& 1 = nI (x % 2) := by
  apply Int32.toBitVec_inj.mp
  apply BitVec.eq_of_toNat_eq
  have e1 : (nI x &&& 1).toBitVec = (nI x).toBitVec &&& (1 : Int32).toBitVec := rfl
  have e2 : ∀ n, (nI n).toBitVec.toNat = n % 2 ^ 32 := fun n => rfl
  rw [e1, BitVec.toNat_and, e2, e2, show (1 : Int32).toBitVec.toNat = 1 from rfl, Nat.and_one_is_mod]
  omega
theorem tB_1 {w k : Nat} (h : nI (w / 2 ^ k % 2) = 1) : (1 : Int32) = tB w k := by
  have h2 := (nI_eq (b := 1) (by omega) (by decide)).mp h
  rw [tB, if_pos]
  rw [Nat.testBit_eq_decide_div_mod_eq, decide_eq_true_iff]
  exact h2
theorem tB_0 {w k : Nat} (h : ¬ nI (w / 2 ^ k % 2) = 1) : (0 : Int32) = tB w k := by
  rw [tB, if_neg]
  rw [Nat.testBit_eq_decide_div_mod_eq, decide_eq_true_iff]
  intro q
  exact h (by rw [q]; rfl)
theorem s9_ne {s : Nat} (h : ¬ nI s = 0) : ¬ s = 0 := fun q => h (by rw [q]; rfl)
theorem rem10 {x a : Nat} (hx : x < 1000) (ha : a < 10) : nI (10 * x + a) - nI (10 * x + a) / 10 * 10 = nI a := by
  have h := pk_rem (a := 10 * x + a) (d := 10) (by omega) (by decide) (by decide)
  rw [show (10 * x + a) % 10 = a by omega] at h
  exact h
theorem YN.b01 {r : Int32} {P : Prop} (h : YN r P) : r = 0 ∨ r = 1 := by
  rcases h with h | h
  · exact Or.inr h.1
  · exact Or.inl h.1
theorem YN_wi {x a b : Int32} {P : Prop} (h : P ↔ ¬ wi x a b = 0) : YN (wi x a b) P := by
  rcases wi_01 x a b with e | e
  · exact Or.inr ⟨e, fun q => (h.mp q) e⟩
  · refine Or.inl ⟨e, h.mpr ?_⟩
    rw [e]; decide
theorem rd_end {ok : Nat → Prop} {i z : Nat} (h : ∀ j, j < i → ok j) (hz : i = z) : FF ok z i := by
  subst hz
  exact ⟨Nat.le_refl _, h, Or.inl rfl⟩
theorem isw_no2 {L d : Nat} {pf : Nat → Int32} {z q s w : Nat} {nw : Int32} {ne : Nat → Int32} (hX : TX 2 L d pf z q s w nw ne) (h : ¬ iW 2 z = 0) (hn : 0 < q → s = 0 → False) : False := by
  obtain ⟨a, b⟩ := iW_y h
  have h1 := hX.1
  have h2 := hX.2.1
  exact hn (by omega) (by omega)
theorem isw_no0 {L d : Nat} {pf : Nat → Int32} {z q s w : Nat} {nw : Int32} {ne : Nat → Int32} (hX : TX 0 L d pf z q s w nw ne) (h : ¬ iW 0 z = 0) (hn : 0 < q → s = 0 → False) : False := by
  obtain ⟨a, b⟩ := iW_y h
  have h1 := hX.1
  have h2 := hX.2.1
  exact hn (by omega) (by omega)
theorem q_pos {q : Nat} (hq : q ≤ 5) (h : ¬ nI q ≤ 0) : 0 < q := by
  rcases Nat.eq_zero_or_pos q with e | e
  · subst e; exact absurd (by decide) h
  · exact e
theorem q_npos {q : Nat} (hq : q ≤ 5) (h : nI q ≤ 0) (h2 : 0 < q) : False := by
  have := leN (a := q) (b := 0) (by decide) (by omega) h
  omega
theorem isw_y0 {pf : Nat → Int32} {z q s w : Nat} {nw mn nd : Int32} {ne : Nat → Int32} (hF : FF (okF0 pf) z z) (hX : TX 2 3 4 pf z q s w nw ne) (e1 : mn = nI q) (e3 : nd = nI w) (h1 : ¬ nI q ≤ 0) (h2 : nI s = 0) : YN 1 (WH0 pf z) ∧ (¬ (1 : Int32) = 0 → ∃ q w, mn = nI q ∧ nd = nI w ∧ 0 < q ∧ z = 2 + 3 * q ∧ TX 2 3 4 pf z q 0 w nw ne) := by
  have hs := (nI_eq (b := 0) (by have := hX.2.1; omega) (by decide)).mp h2
  subst hs
  have hq := q_pos (by have := hX.2.2.1; omega) h1
  have hz : z = 2 + 3 * q := by have := hX.1; omega
  exact ⟨YN_y ⟨iW_i (by omega) (by omega), hF⟩, fun _ => ⟨q, w, e1, e3, hq, hz, hX⟩⟩
theorem isw_y1 {pf : Nat → Int32} {z q s w : Nat} {nw mn nd : Int32} {ne : Nat → Int32} (hF : FF (okF1 pf) z z) (hX : TX 0 5 5 pf z q s w nw ne) (e1 : mn = nI q) (e3 : nd = nI w) (h1 : ¬ nI q ≤ 0) (h2 : nI s = 0) : YN 1 (WH1 pf z) ∧ (¬ (1 : Int32) = 0 → ∃ q w, mn = nI q ∧ nd = nI w ∧ 0 < q ∧ z = 0 + 3 * q ∧ TX 0 5 5 pf z q 0 w nw ne) := by
  have hs := (nI_eq (b := 0) (by have := hX.2.1; omega) (by decide)).mp h2
  subst hs
  have hq := q_pos (by have := hX.2.2.1; omega) h1
  have hz : z = 0 + 3 * q := by have := hX.1; omega
  exact ⟨YN_y ⟨iW_i (by omega) (by omega), hF⟩, fun _ => ⟨q, w, e1, e3, hq, hz, hX⟩⟩
def lO (x : Int32) : Int32 := x / 100
def fO (x : Int32) : Int32 := x / 10 - x / 10 / 10 * 10
def tO (x : Int32) : Int32 := x - x / 10 * 10
theorem lO_n {k a b : Nat} (hk : k < 5) (ha : a < 10) (hb : b < 10) : lO (nI (100 * k + 10 * a + b)) = nI k := by
  have h := pk_div (a := 100 * k + 10 * a + b) (d := 100) (by omega) (by decide) (by decide)
  rw [show (100 * k + 10 * a + b) / 100 = k by omega] at h
  exact h
theorem fO_n {k a b : Nat} (hk : k < 5) (ha : a < 10) (hb : b < 10) : fO (nI (100 * k + 10 * a + b)) = nI a := by
  have h := pk_div (a := 100 * k + 10 * a + b) (d := 10) (by omega) (by decide) (by decide)
  have h2 := pk_rem (a := (100 * k + 10 * a + b) / 10) (d := 10) (by omega) (by decide) (by decide)
  rw [show (100 * k + 10 * a + b) / 10 % 10 = a by omega] at h2
  unfold fO
  have h3 : nI (100 * k + 10 * a + b) / 10 = nI ((100 * k + 10 * a + b) / 10) := h
  rw [h3]
  exact h2
theorem tO_n {k a b : Nat} (hk : k < 5) (ha : a < 10) (hb : b < 10) : tO (nI (100 * k + 10 * a + b)) = nI b := by
  have h2 := pk_rem (a := 100 * k + 10 * a + b) (d := 10) (by omega) (by decide) (by decide)
  rw [show (100 * k + 10 * a + b) % 10 = b by omega] at h2
  exact h2
theorem and3_b {w : Nat} (hw : w < 32) (h0 : w.testBit 0 = true) (h1 : w.testBit 1 = true) : nI w &&& 3 = 3 := by
  have : ∀ w, w < 32 → w.testBit 0 = true → w.testBit 1 = true → nI w &&& 3 = 3 := by decide +kernel
  exact this w hw h0 h1
theorem b_and3 {w : Nat} (hw : w < 32) (h : nI w &&& 3 = 3) : w.testBit 0 = true ∧ w.testBit 1 = true := by
  have : ∀ w, w < 32 → nI w &&& 3 = 3 → w.testBit 0 = true ∧ w.testBit 1 = true := by decide +kernel
  exact this w hw h
theorem tB_n {w k : Nat} (h : tB w k = 0) : ¬ w.testBit k = true := fun q => by
  rw [tB, if_pos q] at h
  exact absurd h (by decide)
theorem tB_y {w k : Nat} (h : ¬ tB w k = 0) : w.testBit k = true := by
  by_cases q : w.testBit k = true
  · exact q
  · rw [tB, if_neg q] at h
    exact absurd rfl h
theorem lt9e {r : Nat} (hr : r ≤ 9) (c : nI r = 9) : ¬ r < 9 := fun q => by
  have := (nI_eq (a := r) (b := 9) (by omega) (by decide)).mp c
  omega
theorem EX_EV {pf : Nat → Int32} {p d : Nat} {x : Int32} (h : EX pf p d x) : EV d x := by
  obtain ⟨k, a, b, h1, h2, h3, -, -, -, -, h4⟩ := h
  exact ⟨k, a, b, h1, h2, h3, h4⟩
theorem ro_iff {pf : Nat → Int32} {z q w : Nat} {nw : Int32} {ne : Nat → Int32} (hW : WH0 pf z) (hX : TX 2 3 4 pf z q 0 w nw ne) : RuleOK pf z ↔ (w.testBit 0 = true ∧ w.testBit 1 = true) ∧ (w.testBit 3 = true → w.testBit 2 = true) := by
  have hb := hX.2.2.2.2.2.2.2.2
  have b0 := bit_nm hb (a := 0) (by decide)
  have b1 := bit_nm hb (a := 1) (by decide)
  have b2 := bit_nm hb (a := 2) (by decide)
  have b3 := bit_nm hb (a := 3) (by decide)
  have b4 := bit_nm hb (a := 4) (by decide)
  have hw : w < 2 ^ 4 := hX.2.2.2.2.1
  have h4 : ¬ w.testBit 4 = true := by
    rw [Nat.testBit_lt_two_pow hw]; decide
  have n4 : nmB pf 52 z = 0 := by
    rcases nmB_01 pf 52 z with e | e
    · exact e
    · exact absurd (b4.mpr (by show ¬ nmB pf 52 z = 0; rw [e]; decide)) h4
  constructor
  · rintro ⟨-, -, h0, h1, g1, g2⟩
    refine ⟨⟨b0.mpr h0, b1.mpr h1⟩, fun q => b2.mpr ?_⟩
    rcases g1 with g | g
    · exact absurd g (b3.mp q)
    · exact g
  · rintro ⟨⟨h0, h1⟩, h3⟩
    refine ⟨hW.1, hW.2, b0.mp h0, b1.mp h1, ?_, Or.inl n4⟩
    by_cases q : nmB pf 51 z = 0
    · exact Or.inl q
    · exact Or.inr (b2.mp (h3 (b3.mpr q)))
theorem ifb {w a : Nat} {x : Int32} (h : w.testBit a = true ↔ ¬ x = 0) : (if x = 0 then 0 else 1 : Nat) = (w.testBit a).toNat := by
  by_cases q : x = 0
  · rw [if_pos q]
    cases hb : w.testBit a
    · rfl
    · exact absurd q (h.mp hb)
  · rw [if_neg q, h.mpr q]
    rfl
theorem nd_bits {pf : Nat → Int32} {w z : Nat} (hb : ∀ a, a < 5 → (w.testBit a = true ↔ ∃ j, j < z ∧ pf j = nI (48 + a))) : ndN pf z = 2 + (w.testBit 2).toNat + (w.testBit 3).toNat + (w.testBit 4).toNat := by
  have b2 := ifb (bit_nm hb (a := 2) (by decide))
  have b3 := ifb (bit_nm hb (a := 3) (by decide))
  have b4 := ifb (bit_nm hb (a := 4) (by decide))
  unfold ndN
  rw [← b2, ← b3, ← b4]
  rfl
theorem imp_or {a b : Bool} (h : a = true → b = true) : a = false ∨ b = true := by
  cases a
  · exact Or.inl rfl
  · exact Or.inr (h rfl)
theorem or_imp' {a b : Bool} (h : a = false ∨ b = true) : a = true → b = true := fun q => by
  rcases h with h | h
  · rw [h] at q; exact absurd q (by decide)
  · exact h
theorem ck_nd : ∀ w, w < 16 → ∀ k, k < 6 → ((w.testBit 0 = true ∧ w.testBit 1 = true) ∧ (w.testBit 3 = false ∨ w.testBit 2 = true) ∧ (k = 0 ∨ 2 ^ (k - 1) ≤ w) ∧ w < 2 ^ k) → 2 + (w.testBit 2).toNat + (w.testBit 3).toNat + (w.testBit 4).toNat = k := by decide +kernel
theorem ck_gr1 : ∀ w, w < 32 → ∀ k, k < 6 → (w ||| 3) = 2 ^ k - 1 → (w.testBit 3 = false ∨ w.testBit 2 = true) ∧ (w.testBit 4 = false ∨ w.testBit 3 = true) := by decide +kernel
theorem ck_gr2 : ∀ w, w < 32 → ∀ k, k < 6 → ((w.testBit 3 = false ∨ w.testBit 2 = true) ∧ (w.testBit 4 = false ∨ w.testBit 3 = true) ∧ (k = 0 ∨ 2 ^ (k - 1) ≤ (w ||| 3)) ∧ (w ||| 3) < 2 ^ k) → (w ||| 3) = 2 ^ k - 1 ∧ 2 + (w.testBit 2).toNat + (w.testBit 3).toNat + (w.testBit 4).toNat = k := by decide +kernel
theorem nd_ab {pf : Nat → Int32} {z q w k : Nat} {nw : Int32} {ne : Nat → Int32} (hX : TX 2 3 4 pf z q 0 w nw ne) (hR : RuleOK pf z) (hlo : k = 0 ∨ 2 ^ (k - 1) ≤ w) (hhi : w < 2 ^ k) (hk : k ≤ 5) : ndN pf z = k := by
  have hR2 := (ro_iff ⟨hR.1, hR.2.1⟩ hX).mp hR
  rw [nd_bits hX.2.2.2.2.2.2.2.2]
  have hw : w < 2 ^ 4 := hX.2.2.2.2.1
  exact ck_nd w hw k (by omega) ⟨hR2.1, imp_or hR2.2, hlo, hhi⟩
theorem or3x {w : Nat} (hw : w < 32) : ∃ w2, w2 < 32 ∧ 3 ≤ w2 ∧ w2 = w ||| 3 ∧ nI w ||| 3 = nI w2 := by
  have : ∀ w, w < 32 → ((w ||| 3) < 32 ∧ 3 ≤ (w ||| 3)) ∧ nI w ||| 3 = nI (w ||| 3) := by decide +kernel
  exact ⟨w ||| 3, (this w hw).1.1, (this w hw).1.2, rfl, (this w hw).2⟩
theorem ab_n0 {w k : Nat} (h : w < 2 ^ k) (hw : 3 ≤ w) (hk : k ≤ 5) : ¬ nI k = 0 := fun q => by
  have := (nI_eq (a := k) (b := 0) (by omega) (by decide)).mp q
  subst this
  omega
theorem gr_iff {pf : Nat → Int32} {z q w : Nat} {nw : Int32} {ne : Nat → Int32} (hW : WH1 pf z) (hX : TX 0 5 5 pf z q 0 w nw ne) : GraphOK pf z ↔ (w.testBit 3 = true → w.testBit 2 = true) ∧ (w.testBit 4 = true → w.testBit 3 = true) := by
  have hb := hX.2.2.2.2.2.2.2.2
  have b2 := bit_nm hb (a := 2) (by decide)
  have b3 := bit_nm hb (a := 3) (by decide)
  have b4 := bit_nm hb (a := 4) (by decide)
  constructor
  · rintro ⟨-, -, g1, g2⟩
    refine ⟨fun q => b2.mpr ?_, fun q => b3.mpr ?_⟩
    · rcases g1 with g | g
      · exact absurd g (b3.mp q)
      · exact g
    · rcases g2 with g | g
      · exact absurd g (b4.mp q)
      · exact g
  · rintro ⟨h3, h4⟩
    refine ⟨hW.1, hW.2, ?_, ?_⟩
    · by_cases q : nmB pf 51 z = 0
      · exact Or.inl q
      · exact Or.inr (b2.mp (h3 (b3.mpr q)))
    · by_cases q : nmB pf 52 z = 0
      · exact Or.inl q
      · exact Or.inr (b3.mp (h4 (b4.mpr q)))
theorem gr_okx {pf : Nat → Int32} {z q w w8 k : Nat} {nw : Int32} {ne : Nat → Int32} (hW : WH1 pf z) (hX : TX 0 5 5 pf z q 0 w nw ne) (hk : k ≤ 5) (e : w8 = w ||| 3) (c : nI w8 = nI (2 ^ k - 1)) : GraphOK pf z := by
  have hw : w < 2 ^ 5 := hX.2.2.2.2.1
  have hp : 2 ^ k ≤ 32 := pow_le5 hk
  have h8 : (w ||| 3) < 32 := Nat.or_lt_two_pow (n := 5) hw (by decide)
  have c2 := (nI_eq (by omega) (by omega)).mp c
  subst e
  have c3 := ck_gr1 w hw k (by omega) c2
  exact (gr_iff hW hX).mpr ⟨or_imp' c3.1, or_imp' c3.2⟩
theorem gr_eq {pf : Nat → Int32} {z q w w8 k : Nat} {nw : Int32} {ne : Nat → Int32} (hX : TX 0 5 5 pf z q 0 w nw ne) (hG : GraphOK pf z) (hk : k ≤ 5) (hlo : k = 0 ∨ 2 ^ (k - 1) ≤ w8) (hhi : w8 < 2 ^ k) (e : w8 = w ||| 3) : nI w8 = nI (2 ^ k - 1) := by
  have hw : w < 2 ^ 5 := hX.2.2.2.2.1
  have hG2 := (gr_iff ⟨hG.1, hG.2.1⟩ hX).mp hG
  subst e
  rw [(ck_gr2 w hw k (by omega) ⟨imp_or hG2.1, imp_or hG2.2, hlo, hhi⟩).1]
theorem gr_nd {pf : Nat → Int32} {z q w w8 k : Nat} {nw : Int32} {ne : Nat → Int32} (hX : TX 0 5 5 pf z q 0 w nw ne) (hG : GraphOK pf z) (hk : k ≤ 5) (hlo : k = 0 ∨ 2 ^ (k - 1) ≤ w8) (hhi : w8 < 2 ^ k) (e : w8 = w ||| 3) : ndN pf z = k := by
  have hw : w < 2 ^ 5 := hX.2.2.2.2.1
  have hG2 := (gr_iff ⟨hG.1, hG.2.1⟩ hX).mp hG
  rw [nd_bits hX.2.2.2.2.2.2.2.2]
  subst e
  exact (ck_gr2 w hw k (by omega) ⟨imp_or hG2.1, imp_or hG2.2, hlo, hhi⟩).2
/-- what the reference's rule() answers and leaves -/
def MRuP (pf : Nat → Int32) (z r : Nat) (ro re rn rg : Nat → Int32) (a : Int32) (z2 r2 : Nat) (ro2 re2 rn2 rg2 : Nat → Int32) : Prop :=
  (¬ RuleOK pf z ∧ a = -1003 ∧ z2 = z ∧ r2 = r ∧ ro2 = ro ∧ re2 = re ∧ rn2 = rn ∧ rg2 = rg) ∨ (RuleOK pf z ∧ ¬ r < 9 ∧ a = -1004 ∧ z2 = z ∧ r2 = r ∧ ro2 = ro ∧ re2 = re ∧ rn2 = rn ∧ rg2 = rg) ∨
  (RuleOK pf z ∧ r < 9 ∧ a = nI r ∧ z2 = 0 ∧ r2 = r + 1 ∧ ro2 = upd ro r (cL (pf 0)) ∧ re2 = upd re r (nI ((z - 2) / 3)) ∧ rn2 = upd rn r (nI (ndN pf z)) ∧ (∀ j, j < (z - 2) / 3 → EX pf (2 + 3 * j) 4 (rg2 (3 * r + j))) ∧ ∀ j, j < 3 * r → rg2 j = rg j)
def MGrP (pf : Nat → Int32) (z n v : Nat) (ea : Nat → Int32) (k1 k3 a : Int32) (z2 n2 v2 : Nat) (ea2 : Nat → Int32) (k1b k3b : Int32) : Prop :=
  (¬ GraphOK pf z ∧ a = -1003 ∧ z2 = z ∧ n2 = n ∧ v2 = v ∧ ea2 = ea ∧ k1b = k1 ∧ k3b = k3) ∨ (GraphOK pf z ∧ a = nI (z / 3) ∧ z2 = 0 ∧ n2 = z / 3 ∧ v2 = ndN pf z ∧ (∀ j, j < z / 3 → EX pf (0 + 3 * j) 5 (ea2 j)) ∧ k1b = 0 ∧ k3b = k3 + 1)
def rnow (ro re rn rg : Nat → Int32) (j w : Nat) : Int32 := if w = 0 then ro j else if w = 1 then re j else if w = 2 then rn j else if re j ≤ nI (w - 10) then -1 else rg (3 * j + w - 10)
theorem rn_0 {ro re rn rg : Nat → Int32} {j w : Nat} (h : nI w = 0) (hw : w < 1000) : ro j = rnow ro re rn rg j w := by
  rw [rnow, if_pos ((nI_eq (a := w) (b := 0) (by omega) (by decide)).mp h)]
theorem rn_1 {ro re rn rg : Nat → Int32} {j w : Nat} (h : nI w = 1) (hw : w < 1000) : re j = rnow ro re rn rg j w := by
  have := (nI_eq (a := w) (b := 1) (by omega) (by decide)).mp h
  rw [rnow, if_neg (by omega), if_pos this]
theorem rn_2 {ro re rn rg : Nat → Int32} {j w : Nat} (h : nI w = 2) (hw : w < 1000) : rn j = rnow ro re rn rg j w := by
  have := (nI_eq (a := w) (b := 2) (by omega) (by decide)).mp h
  rw [rnow, if_neg (by omega), if_neg (by omega), if_pos this]
theorem rn_a {ro re rn rg : Nat → Int32} {j w : Nat} (hw : 10 ≤ w) (h : ¬ re j ≤ nI (w - 10)) : rg (3 * j + w - 10) = rnow ro re rn rg j w := by
  rw [rnow, if_neg (by omega), if_neg (by omega), if_neg (by omega), if_neg h]
theorem rn_b {ro re rn rg : Nat → Int32} {j w : Nat} (hw : 10 ≤ w) (h : re j ≤ nI (w - 10)) : (-1 : Int32) = rnow ro re rn rg j w := by
  rw [rnow, if_neg (by omega), if_neg (by omega), if_neg (by omega), if_pos h]
def MOf (p0 p1 : Int32) (r : Nat) (ro re rn rg : Nat → Int32) (a : Int32) : Prop := (wi p0 0 (nI r - 1) = 0 ∧ a = -1001) ∨ ∃ j, j < r ∧ p0 = nI j ∧ ((wi p1 0 2 = 0 ∧ wi p1 10 12 = 0 ∧ a = -1002) ∨ ∃ w, (w < 3 ∨ (10 ≤ w ∧ w ≤ 12)) ∧ p1 = nI w ∧ a = rnow ro re rn rg j w)
