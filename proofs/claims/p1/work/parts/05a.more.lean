/-! rows by what they hold below their length -/
theorem arrV_ext {cA : ClassId} {n : Nat} {f g : Nat → Value} (h : ∀ j, j < n → f j = g j) : arrV cA n f = arrV cA n g := by
  unfold arrV
  congr 1
  congr 1
  funext j
  exact h j.val j.isLt
theorem va_P.rowI {D : va_G} {ws : va_W} {H : Heap} {a n : Nat} {cA : ClassId} {f g : Nat → Int32} {A : Nat → Prop} (k : Nat) (hP : va_P D vwCl ws H) (hD : va_D A ws) (he : ws[k]? = some (a, .inl (cA, n, .inl f))) (h : ∀ j, j < n → f j = g j) : va_P D vwCl (ws.set k (a, .inl (cA, n, .inl g))) H ∧ va_D A (ws.set k (a, .inl (cA, n, .inl g))) := by
  refine ⟨hP.set hD he ?_ (fun _ _ => rfl), hD.set he⟩
  have h1 : H[a]? = some (vp_cell cA (n, .inl f)) := hP k _ he
  show H[a]? = some (vp_cell cA (n, .inl g))
  rw [h1, vp_cell_i, vp_cell_i, arrV_ext (fun j hj => by rw [h j hj])]
theorem va_P.rowJ {D : va_G} {ws : va_W} {H : Heap} {a n : Nat} {cA : ClassId} {f g : Nat → Int64} {A : Nat → Prop} (k : Nat) (hP : va_P D vwCl ws H) (hD : va_D A ws) (he : ws[k]? = some (a, .inl (cA, n, .inr (.inl f)))) (h : ∀ j, j < n → f j = g j) : va_P D vwCl (ws.set k (a, .inl (cA, n, .inr (.inl g)))) H ∧ va_D A (ws.set k (a, .inl (cA, n, .inr (.inl g)))) := by
  refine ⟨hP.set hD he ?_ (fun _ _ => rfl), hD.set he⟩
  have h1 : H[a]? = some (vp_cell cA (n, .inr (.inl f))) := hP k _ he
  show H[a]? = some (vp_cell cA (n, .inr (.inl g)))
  rw [h1, vp_cell_l, vp_cell_l, arrV_ext (fun j hj => by rw [h j hj])]
theorem up_lt {g : Nat → Int32} {i : Nat} {v : Int32} (hg : ∀ j, j < i → g j = v) : ∀ j, j < i + 1 → upd g i v j = v := fun j hj => by
  by_cases h9 : j = i
  · subst h9; exact pk_us
  · rw [pk_un h9]; exact hg j (by omega)
theorem upL_lt {g : Nat → Int64} {i : Nat} {v : Int64} (hg : ∀ j, j < i → g j = v) : ∀ j, j < i + 1 → vp_updL g i v j = v := fun j hj => by
  by_cases h9 : j = i
  · subst h9; exact pk_uLs
  · rw [pk_uLn h9]; exact hg j (by omega)
/-- Lights.nearest behind i places: the best, its steps -/
def nearS (f : Nat → Int64) (z : Nat → Int32) : Nat → Int32 × Int64
  | 0 => (-1, 2305843009213693952)
  | i + 1 => if z i = 0 then (if 0 ≤ lg_cmp (f i) (nearS f z i).2 then nearS f z i else (nI i, f i)) else nearS f z i
theorem nearS_a {f : Nat → Int64} {z : Nat → Int32} {i : Nat} (h : ¬ z i = 0) : nearS f z (i + 1) = nearS f z i := by
  rw [nearS, if_neg h]
theorem nearS_b {f : Nat → Int64} {z : Nat → Int32} {i : Nat} (h : z i = 0) (h2 : 0 ≤ lg_cmp (f i) (nearS f z i).2) : nearS f z (i + 1) = nearS f z i := by
  rw [nearS, if_pos h, if_pos h2]
theorem nearS_c {f : Nat → Int64} {z : Nat → Int32} {i : Nat} (h : z i = 0) (h2 : ¬ 0 ≤ lg_cmp (f i) (nearS f z i).2) : nearS f z (i + 1) = (nI i, f i) := by
  rw [nearS, if_pos h, if_neg h2]
def NEV : Int64 := 2305843009213693952
/-- the lights of no rule at all -/
def Lz (f : Nat → Int64) (g : Nat → Int32) : Prop := (∀ j, j < 48 → f j = 2305843009213693952) ∧ ∀ j, j < 48 → g j = -1
theorem opn_ok {a : Nat} (h : a < 3) : (if nI a < 0 then (0 : Int32) else if 3 ≤ nI a then 0 else 1) = 1 := by
  rw [if_neg (nI_pos (by omega)), if_neg (show ¬ (3 : Int32) ≤ nI a from nI_ge (b := 3) h (by decide))]
theorem opn_bad {x : Int32} (h : x < 0 ∨ 3 ≤ x) : (if x < 0 then (0 : Int32) else if 3 ≤ x then 0 else 1) = 0 := by
  rcases h with h | h
  · rw [if_pos h]
  · by_cases h2 : x < 0
    · rw [if_pos h2]
    · rw [if_neg h2, if_pos h]
theorem has0 (x : Int32) : (if x < 0 then (0 : Int32) else if 0 ≤ x then 0 else 1) = 0 := by
  by_cases h : x < 0
  · rw [if_pos h]
  · rw [if_neg h, if_pos (Int32.not_lt.mp h)]
theorem i32_split3 (x : Int32) : (x < 0 ∨ 3 ≤ x) ∨ ∃ a : Nat, a < 3 ∧ x = nI a := by
  by_cases h : x < 0
  · exact Or.inl (Or.inl h)
  · by_cases h3 : 3 ≤ x
    · exact Or.inl (Or.inr h3)
    · obtain ⟨j, hj, e⟩ := nI_of h
      refine Or.inr ⟨j, ?_, e⟩
      rcases Nat.lt_or_ge j 3 with q | q
      · exact q
      · exact absurd (by rw [e]; exact nI_le (a := 3) q hj) h3
theorem opn_few {x v : Int32} (h : (if x < 0 then (0 : Int32) else if 3 ≤ x then 0 else 1) = 0) : (-1001 : Int32) = if x < 0 then -1001 else if 3 ≤ x then -1001 else v := by
  by_cases h1 : x < 0
  · rw [if_pos h1]
  · by_cases h2 : 3 ≤ x
    · rw [if_neg h1, if_pos h2]
    · rw [if_neg h1, if_neg h2] at h
      exact absurd h (by decide)
theorem opn_few2 {x v : Int32} (h : ¬ (if x < 0 then (0 : Int32) else if 3 ≤ x then 0 else 1) = 0) : v = if x < 0 then -1001 else if 3 ≤ x then -1001 else v := by
  by_cases h1 : x < 0
  · rw [if_pos h1] at h
    exact absurd rfl h
  · by_cases h2 : 3 ≤ x
    · rw [if_neg h1, if_pos h2] at h
      exact absurd rfl h
    · rw [if_neg h1, if_neg h2]
def cnt0 (x : Int32) : Int32 := if x.toInt < 0 ∨ 7 < x.toInt then -1002 else 0
theorem cnt0_out {x : Int32} (h : x.toInt < 0 ∨ 7 < x.toInt) : (-1002 : Int32) = cnt0 x := by
  rw [cnt0, if_pos h]
theorem cnt0_in {x k : Int32} (h : x = k) (h2 : ¬ (k.toInt < 0 ∨ 7 < k.toInt)) : (0 : Int32) = cnt0 x := by
  rw [cnt0, h, if_neg h2]
theorem near_skip {f : Nat → Int64} {z : Nat → Int32} {a : Nat} {p : Int32 × Int64} (ha : nearS f z a = p) : ∀ n, (∀ j, j < n → (¬ z (a + j) = 0 ∨ 0 ≤ lg_cmp (f (a + j)) p.2)) → nearS f z (a + n) = p := by
  intro n
  induction n with
  | zero => intro _; exact ha
  | succ n ih =>
    intro h
    have h1 := ih (fun j hj => h j (by omega))
    show nearS f z (a + n + 1) = p
    by_cases hz : z (a + n) = 0
    · rcases h n (by omega) with h2 | h2
      · exact absurd hz h2
      · rw [nearS_b hz (by rw [h1]; exact h2), h1]
    · rw [nearS_a hz, h1]
abbrev nF : Nat → Int64 := vp_updL (vp_updL (vp_updL (fun _ => 2305843009213693952) 57 0) 79 0) 92 0
theorem near_1 : (nearS nF (fun _ => 0) 96).1 = 57 := by
  have h0 : nearS nF (fun _ => 0) (0 + 57) = (-1, 2305843009213693952) := near_skip rfl 57 (by decide +kernel)
  have h1 : nearS nF (fun _ => 0) (57 + 1) = (57, 0) := nearS_c rfl (by rw [show (57 : Nat) = 0 + 57 from rfl, h0]; decide +kernel)
  rw [show (96 : Nat) = 57 + 1 + 38 from rfl, near_skip h1 38 (by decide +kernel)]
theorem near_2 : (nearS nF (upd (fun _ => 0) 57 1) 96).1 = 79 := by
  have h0 : nearS nF (upd (fun _ => 0) 57 1) (0 + 79) = (-1, 2305843009213693952) := near_skip rfl 79 (by decide +kernel)
  have h1 : nearS nF (upd (fun _ => 0) 57 1) (79 + 1) = (79, 0) := nearS_c (by decide +kernel) (by rw [show (79 : Nat) = 0 + 79 from rfl, h0]; decide +kernel)
  rw [show (96 : Nat) = 79 + 1 + 16 from rfl, near_skip h1 16 (by decide +kernel)]
theorem near_3 : (nearS nF (upd (upd (fun _ => 0) 57 1) 79 1) 96).1 = 92 := by
  have h0 : nearS nF (upd (upd (fun _ => 0) 57 1) 79 1) (0 + 92) = (-1, 2305843009213693952) := near_skip rfl 92 (by decide +kernel)
  have h1 : nearS nF (upd (upd (fun _ => 0) 57 1) 79 1) (92 + 1) = (92, 0) := nearS_c (by decide +kernel) (by rw [show (92 : Nat) = 0 + 92 from rfl, h0]; decide +kernel)
  rw [show (96 : Nat) = 92 + 1 + 3 from rfl, near_skip h1 3 (by decide +kernel)]
theorem near_4 : (nearS nF (upd (upd (upd (fun _ => 0) 57 1) 79 1) 92 1) 96).1 = -1 := by
  have h0 : nearS nF (upd (upd (upd (fun _ => 0) 57 1) 79 1) 92 1) (0 + 96) = (-1, 2305843009213693952) := near_skip rfl 96 (by decide +kernel)
  rw [show (96 : Nat) = 0 + 96 from rfl, h0]
theorem nF_0 : ∀ j, j < 48 → nF j = 2305843009213693952 := by decide +kernel
theorem nG_0 : ∀ j, j < 48 → (upd (upd (upd (fun _ => (-1)) 57 (-1)) 79 (-1)) 92 (-1)) j = (-1 : Int32) := by decide +kernel
theorem few_ok {a : Nat} {v : Int32} (h : a < 3) : (if nI a < 0 then (-1001 : Int32) else if 3 ≤ nI a then -1001 else v) = v := by
  rw [if_neg (nI_pos (by omega)), if_neg (show ¬ (3 : Int32) ≤ nI a from nI_ge (b := 3) h (by decide))]
theorem cnt0_ok {k : Nat} (h : k < 8) : cnt0 (nI k) = 0 := by
  rw [cnt0, if_neg]
  rw [nI_toInt (by omega)]
  omega
/-! the digest of an object without rules, graph and text -/
def dk (h : Int64) : Nat → Int64
  | 0 => h
  | k + 1 => 31 * (31 * dk h k + (-1)) + (-1)
def dO : Nat → Int64
  | 0 => 31 * 1709 + (-1003)
  | i + 1 => dk (31 * (31 * dO i + (-1003)) + 0) 16
def dC (h : Int64) : Nat → Int64
  | 0 => h
  | k + 1 => 31 * dC h k + 0
def LSt (v : Int32) (f : Nat → Int64) (g : Nat → Int32) : Prop := v = 0 ∨ (v = 1 ∧ Lz f g)
