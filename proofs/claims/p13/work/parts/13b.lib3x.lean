/-! an edge is replaced: rows that move on, new ones in their place -/
/-- y is x with the places behind i moved on by d, up to n -/
def SHR (x y : Nat → Int32) (d n i : Nat) : Prop := ∀ j, j < n + d → y j = if i + d < j then x (j - d) else x j
theorem SHR_0 {x : Nat → Int32} {d n : Nat} : SHR x x d n (n - 1) := fun j hj => by rw [if_neg (by omega)]
theorem SHR_s {x y : Nat → Int32} {d n i : Nat} (h : SHR x y d n i) (h1 : 1 ≤ i) (hi : i < n) : SHR x (upd y (i + d) (y i)) d n (i - 1) := fun j hj => by
  by_cases h9 : j = i + d
  · subst h9
    rw [pk_us, h i (by omega), if_neg (by omega), if_pos (by omega), show i + d - d = i by omega]
  · rw [pk_un h9, h j hj]
    by_cases h8 : i + d < j
    · rw [if_pos h8, if_pos (by omega)]
    · rw [if_neg h8, if_neg (by omega)]
/-- t of the e new ones are at their places from k on -/
def RPT (x w y : Nat → Int32) (k e n t : Nat) : Prop := ∀ j, j < n + (e - 1) → y j = if k ≤ j ∧ j < k + t then w (j - k) else if k + (e - 1) < j then x (j - (e - 1)) else x j
theorem RPT_0 {x w y : Nat → Int32} {k e n : Nat} (h : SHR x y (e - 1) n k) : RPT x w y k e n 0 := fun j hj => by
  rw [h j hj, if_neg (show ¬ (k ≤ j ∧ j < k + 0) by omega)]
theorem RPT_s {x w y : Nat → Int32} {k e n t : Nat} (h : RPT x w y k e n t) : RPT x w (upd y (k + t) (w t)) k e n (t + 1) := fun j hj => by
  by_cases h9 : j = k + t
  · subst h9
    rw [pk_us, if_pos (by omega), show k + t - k = t by omega]
  · rw [pk_un h9, h j hj]
    by_cases h8 : k ≤ j ∧ j < k + t
    · rw [if_pos h8, if_pos (show k ≤ j ∧ j < k + (t + 1) by omega)]
    · rw [if_neg h8, if_neg (show ¬ (k ≤ j ∧ j < k + (t + 1)) by omega)]
def RPL (x w y : Nat → Int32) (k e n : Nat) : Prop := ∀ j, j < n + (e - 1) → y j = if j < k then x j else if j < k + e then w (j - k) else x (j - (e - 1))
theorem RPL_end {x w y : Nat → Int32} {k e n t : Nat} (he : t = e) (h1 : 1 ≤ e) (h : RPT x w y k e n t) : RPL x w y k e n := fun j hj => by
  subst he
  rw [h j hj]
  by_cases h2 : j < k
  · rw [if_neg (show ¬ (k ≤ j ∧ j < k + t) by omega), if_neg (show ¬ (k + (t - 1) < j) by omega), if_pos h2]
  · rw [if_neg h2]
    by_cases h3 : j < k + t
    · rw [if_pos (show k ≤ j ∧ j < k + t by omega), if_pos h3]
    · rw [if_neg (show ¬ (k ≤ j ∧ j < k + t) by omega), if_pos (show k + (t - 1) < j by omega), if_neg h3]
def nC (v : Nat) (p s t : Int32) : Int32 := if p = 0 then s else if p = 1 then t else (nI v + p) - 2
def cntF (p a0 a1 a2 a3 a4 a5 a6 a7 : Int32) : Int32 := if p = 0 then a0 else if p = 1 then a1 else if p = 2 then a2 else if p = 3 then a3 else if p = 4 then a4 else if p = 5 then a5 else if p = 6 then a6 else if p = 7 then a7 else -1002
theorem cnt_o {p a0 a1 a2 a3 a4 a5 a6 a7 : Int32} (h : p.toInt < 0 ∨ 7 < p.toInt) : cntF p a0 a1 a2 a3 a4 a5 a6 a7 = -1002 := by
  have f : ∀ k : Int32, 0 ≤ k.toInt → k.toInt ≤ 7 → ¬ p = k := fun k h1 h2 q => by subst q; omega
  unfold cntF
  rw [if_neg (f 0 (by decide) (by decide)), if_neg (f 1 (by decide) (by decide)), if_neg (f 2 (by decide) (by decide)), if_neg (f 3 (by decide) (by decide)), if_neg (f 4 (by decide) (by decide)), if_neg (f 5 (by decide) (by decide)), if_neg (f 6 (by decide) (by decide)), if_neg (f 7 (by decide) (by decide))]
