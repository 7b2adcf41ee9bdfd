/-! rows by what they hold below their length -/
theorem arrV_ext {cA : ClassId} {n : Nat} {f g : Nat → Value} (h : ∀ j, j < n → f j = g j) : arrV cA n f = arrV cA n g := by
  unfold arrV
  congr 1
  congr 1
  funext j
  exact h j.val j.isLt
theorem va_P.rowI {D : va_G} {ws : va_W} {H : Heap} {a n : Nat} {cA : ClassId} {f g : Nat → Int32} {A : Nat → Prop} (k : Nat) (hP : va_P D vwCl ws H) (hD : va_D A ws) (he : ws[k]? = some (a, .inl (cA, n, .inl f))) (h : ∀ j, j < n → f j = g j) : va_P D vwCl (ws.set k (a, .inl (cA, n, .inl g))) H ∧ va_D A (ws.set k (a, .inl (cA, n, .inl g))) := by
  refine ⟨hP.set hD he ?_ (fun _ _ => rfl), hD.set he⟩
  have h1 : H[a]? = some (vp_cell cA (n, .inl f)) := hP k _ he
  show H[a]? = some (vp_cell cA (n, .inl g))
  rw [h1, vp_cell_i, vp_cell_i, arrV_ext (fun j hj => by rw [h j hj])]
theorem va_P.rowJ {D : va_G} {ws : va_W} {H : Heap} {a n : Nat} {cA : ClassId} {f g : Nat → Int64} {A : Nat → Prop} (k : Nat) (hP : va_P D vwCl ws H) (hD : va_D A ws) (he : ws[k]? = some (a, .inl (cA, n, .inr (.inl f)))) (h : ∀ j, j < n → f j = g j) : va_P D vwCl (ws.set k (a, .inl (cA, n, .inr (.inl g)))) H ∧ va_D A (ws.set k (a, .inl (cA, n, .inr (.inl g)))) := by
  refine ⟨hP.set hD he ?_ (fun _ _ => rfl), hD.set he⟩
  have h1 : H[a]? = some (vp_cell cA (n, .inr (.inl f))) := hP k _ he
  show H[a]? = some (vp_cell cA (n, .inr (.inl g)))
  rw [h1, vp_cell_l, vp_cell_l, arrV_ext (fun j hj => by rw [h j hj])]
theorem up_lt {g : Nat → Int32} {i : Nat} {v : Int32} (hg : ∀ j, j < i → g j = v) : ∀ j, j < i + 1 → upd g i v j = v := fun j hj => by
  by_cases h9 : j = i
  · subst h9; exact pk_us
  · rw [pk_un h9]; exact hg j (by omega)
theorem upL_lt {g : Nat → Int64} {i : Nat} {v : Int64} (hg : ∀ j, j < i → g j = v) : ∀ j, j < i + 1 → vp_updL g i v j = v := fun j hj => by
  by_cases h9 : j = i
  · subst h9; exact pk_uLs
  · rw [pk_uLn h9]; exact hg j (by omega)
theorem leN {a b : Nat} (hb : b < 2147483648) (ha : a < 2147483648) (h : nI a ≤ nI b) : a ≤ b := (nI_leI ha hb).mp h
theorem nleN {a b : Nat} (hb : b < 2147483648) (ha : a < 2147483648) (h : ¬ nI a ≤ nI b) : b < a := by
  rcases Nat.lt_or_ge b a with q | q
  · exact q
  · exact absurd (nI_le q hb) h
/-! the letters of a page -/
def opn (x : Int32) : Int32 := if x < 0 then 0 else if 3 ≤ x then 0 else 1
theorem opn_01 (x : Int32) : opn x = 0 ∨ opn x = 1 := by
  unfold opn
  split
  · exact Or.inl rfl
  · split
    · exact Or.inl rfl
    · exact Or.inr rfl
theorem nar_01 {x : Int32} (h : x = 0 ∨ x = 1) : narrow .boolean (.int x) = .int x := by
  rcases h with rfl | rfl <;> rfl
def cL (c : Int32) : Int32 := if c < 65 then (if c = 97 then 3 else if c = 98 then 4 else -1) else if 67 < c then (if c = 97 then 3 else if c = 98 then 4 else -1) else c - 65
def fH (pf : Nat → Int32) (i : Nat) : Int32 := if nI i = 0 then opn (cL (pf i)) else if pf i = 61 then 1 else 0
def fE0 (pf : Nat → Int32) (i q : Nat) : Int32 := if nI q = 0 then (if cL (pf i) < 0 then 0 else 1) else if pf i < 48 then 0 else if 51 < pf i then 0 else if nI q = 1 then 1 else if pf i = pf (i - 1) then 0 else 1
def fE1 (pf : Nat → Int32) (i q : Nat) : Int32 := if nI q = 0 then (if cL (pf i) < 3 then 0 else 1) else if pf i < 48 then 0 else if 52 < pf i then 0 else if nI q = 1 then 1 else if pf i = pf (i - 1) then 0 else 1
def okF0 (pf : Nat → Int32) (i : Nat) : Prop := i < 11 ∧ ¬ (if i < 2 then fH pf i else fE0 pf i ((i - 2) % 3)) = 0
def okF1 (pf : Nat → Int32) (i : Nat) : Prop := i < 15 ∧ ¬ fE1 pf i (i % 3) = 0
/-- k is the first place that isn't right, or the end -/
def FF (ok : Nat → Prop) (z k : Nat) : Prop := k ≤ z ∧ (∀ j, j < k → ok j) ∧ (k = z ∨ ¬ ok k)
theorem FF_end {ok : Nat → Prop} {i z : Nat} (h : ∀ j, j < i → ok j) (hz : i = z) : FF ok z z := by
  subst hz
  exact ⟨Nat.le_refl _, h, Or.inl rfl⟩
theorem FF_bad {ok : Nat → Prop} {i z : Nat} (h : ∀ j, j < i → ok j) (hz : i < z) (hb : ¬ ok i) : FF ok z i := ⟨by omega, h, Or.inr hb⟩
theorem FF_step {ok : Nat → Prop} {i : Nat} (h : ∀ j, j < i → ok j) (hb : ok i) : ∀ j, j < i + 1 → ok j := fun j hj => by
  by_cases h9 : j = i
  · subst h9; exact hb
  · exact h j (by omega)
theorem ok0_most {pf : Nat → Int32} {i : Nat} (hi : i < 16) (c : 11 ≤ nI i) : ¬ okF0 pf i := fun h => by
  have := leN (a := 11) (by omega) (by omega) c
  have := h.1
  omega
theorem ok1_most {pf : Nat → Int32} {i : Nat} (hi : i < 16) (c : 15 ≤ nI i) : ¬ okF1 pf i := fun h => by
  have := leN (a := 15) (by omega) (by omega) c
  have := h.1
  omega
theorem ok0_h {pf : Nat → Int32} {i : Nat} (hi : i < 16) (c : ¬ 2 ≤ nI i) : okF0 pf i ↔ ¬ fH pf i = 0 := by
  have := nleN (a := 2) (by omega) (by omega) c
  unfold okF0
  rw [if_pos this]
  exact ⟨fun h => h.2, fun h => ⟨by omega, h⟩⟩
theorem ok0_e {pf : Nat → Int32} {i : Nat} (hi : i < 16) (c : 2 ≤ nI i) (c2 : ¬ 11 ≤ nI i) : okF0 pf i ↔ ¬ fE0 pf i ((i - 2) % 3) = 0 := by
  have := leN (a := 2) (by omega) (by omega) c
  have := nleN (a := 11) (by omega) (by omega) c2
  unfold okF0
  rw [if_neg (by omega)]
  exact ⟨fun h => h.2, fun h => ⟨by omega, h⟩⟩
theorem ok1_e {pf : Nat → Int32} {i : Nat} (hi : i < 16) (c2 : ¬ 15 ≤ nI i) : okF1 pf i ↔ ¬ fE1 pf i (i % 3) = 0 := by
  have := nleN (a := 15) (by omega) (by omega) c2
  exact ⟨fun h => h.2, fun h => ⟨by omega, h⟩⟩
/-- whether one of the first z is x -/
def nmB (pf : Nat → Int32) (x : Int32) : Nat → Int32
  | 0 => 0
  | z + 1 => if pf z = x then 1 else nmB pf x z
theorem nmB_0 {pf : Nat → Int32} {x : Int32} : ∀ z, (∀ j, j < z → ¬ pf j = x) → nmB pf x z = 0 := by
  intro z
  induction z with
  | zero => intro _; rfl
  | succ z ih =>
    intro h
    rw [nmB, if_neg (h z (by omega)), ih (fun j hj => h j (by omega))]
theorem nmB_1 {pf : Nat → Int32} {x : Int32} {i : Nat} (hx : pf i = x) : ∀ z, i < z → nmB pf x z = 1 := by
  intro z
  induction z with
  | zero => intro h; omega
  | succ z ih =>
    intro h
    rw [nmB]
    by_cases h9 : pf z = x
    · rw [if_pos h9]
    · rw [if_neg h9]
      have : i ≠ z := fun q => h9 (by rw [← q]; exact hx)
      exact ih (by omega)
theorem nmB_01 (pf : Nat → Int32) (x : Int32) : ∀ z, nmB pf x z = 0 ∨ nmB pf x z = 1 := by
  intro z
  induction z with
  | zero => exact Or.inl rfl
  | succ z ih =>
    rw [nmB]
    by_cases h9 : pf z = x
    · rw [if_pos h9]; exact Or.inr rfl
    · rw [if_neg h9]; exact ih
def iW (h z : Nat) : Int32 := if h < z ∧ (z - h) % 3 = 0 then 1 else 0
theorem iW_a {h z : Nat} (hz : z < 100) (hh : h < 100) (c : nI z ≤ nI h) : (0 : Int32) = iW h z := by
  have := leN (by omega) (by omega) c
  rw [iW, if_neg (by omega)]
theorem iW_le {h z : Nat} (hz : z < 100) (hh : h < 100) (c : ¬ nI z ≤ nI h) : h ≤ z := by
  have := nleN (by omega) (by omega) c
  omega
theorem iW_b {h z : Nat} (hz : z < 100) (hh : h < 100) (c : ¬ nI z ≤ nI h) (c2 : ¬ nI ((z - h) % 3) = 0) : (0 : Int32) = iW h z := by
  rw [iW, if_neg]
  intro q
  exact c2 (by rw [q.2]; rfl)
theorem iW_c {h z : Nat} (hz : z < 100) (hh : h < 100) (c : ¬ nI z ≤ nI h) (c2 : nI ((z - h) % 3) = 0) : (1 : Int32) = iW h z := by
  have := nleN (by omega) (by omega) c
  have h3 : nI ((z - h) % 3) = nI 0 := c2
  have := (nI_eq (by omega) (by omega)).mp h3
  rw [iW, if_pos ⟨by omega, this⟩]
def gapOK (pf : Nat → Int32) (z : Nat) : Prop := (nmB pf 51 z = 0 ∨ ¬ nmB pf 50 z = 0) ∧ (nmB pf 52 z = 0 ∨ ¬ nmB pf 51 z = 0)
def RuleOK (pf : Nat → Int32) (z : Nat) : Prop := ¬ iW 2 z = 0 ∧ FF (okF0 pf) z z ∧ ¬ nmB pf 48 z = 0 ∧ ¬ nmB pf 49 z = 0 ∧ gapOK pf z
def GraphOK (pf : Nat → Int32) (z : Nat) : Prop := ¬ iW 0 z = 0 ∧ FF (okF1 pf) z z ∧ gapOK pf z
theorem FF_one {ok : Nat → Prop} {z k : Nat} (h : FF ok z k) (h2 : FF ok z z) : k = z := by
  rcases h.2.2 with q | q
  · exact q
  · rcases Nat.lt_or_ge k z with w | w
    · exact absurd (h2.2.1 k w) q
    · have := h.1
      omega
def YN (r : Int32) (P : Prop) : Prop := (r = 1 ∧ P) ∨ (r = 0 ∧ ¬ P)
theorem YN_y {P : Prop} (h : P) : YN 1 P := Or.inl ⟨rfl, h⟩
theorem YN_n {P : Prop} (h : ¬ P) : YN 0 P := Or.inr ⟨rfl, h⟩
theorem YN.of {r : Int32} {P : Prop} (h : YN r P) (c : ¬ r = 0) : P := by
  rcases h with h | h
  · exact h.2
  · exact absurd h.1 c
theorem YN.no {r : Int32} {P : Prop} (h : YN r P) (c : r = 0) : ¬ P := by
  rcases h with h | h
  · rw [h.1] at c; exact absurd c (by decide)
  · exact h.2
theorem fE_ge {q i : Nat} (hq : q = 0 ∨ 1 ≤ i) (c : ¬ nI q = 0) (h3 : q < 3) : 1 ≤ i := by
  rcases hq with h | h
  · subst h; exact absurd rfl c
  · exact h
