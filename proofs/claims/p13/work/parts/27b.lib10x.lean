def MDrP (p : Int32) (r : Nat) (ro re rn rg : Nat → Int32) (a : Int32) (r2 : Nat) (ro2 re2 rn2 rg2 : Nat → Int32) : Prop :=
  (wi p 0 (nI r - 1) = 0 ∧ a = -1001 ∧ r2 = r ∧ ro2 = ro ∧ re2 = re ∧ rn2 = rn ∧ rg2 = rg) ∨ ∃ k, k < r ∧ p = nI k ∧ a = nI (r - 1) ∧ r2 = r - 1 ∧ SHf ro ro2 k (r - 1) ∧ SHf re re2 k (r - 1) ∧ SHf rn rn2 k (r - 1) ∧ SH3 rg rg2 k (r - 1)
def nF (v : Nat) (p w : Int32) : Int32 := if p = 0 then fO w else if p = 1 then tO w else (nI v + p) - 2
def mop (x : Nat → Int32) : Nat → Int32
  | 0 => 0
  | i + 1 => if 3 ≤ lO (x i) then mop x i + 0 else mop x i + 1
theorem mop_b {x : Nat → Int32} {i : Nat} (h : 3 ≤ lO (x i)) : mop x (i + 1) = mop x i + 0 := by rw [mop, if_pos h]
theorem mop_a {x : Nat → Int32} {i : Nat} (h : ¬ 3 ≤ lO (x i)) : mop x (i + 1) = mop x i + 1 := by rw [mop, if_neg h]
def nwM (v : Nat) (w : Int32) (x : Int32) : Int32 := ((100 * (lO x)) + (10 * (nF v (fO x) w))) + (nF v (tO x) w)
/-- what the reference's step() answers and leaves -/
def MStP (p0 p1 : Int32) (r n v : Nat) (ea ro re rn rg : Nat → Int32) (k1 k2 a : Int32) (n2 v2 : Nat) (ea2 : Nat → Int32) (k1b k2b : Int32) : Prop :=
  ((wi p0 0 (nI n - 1) = 0 ∨ wi p1 0 (nI r - 1) = 0) ∧ a = -1001 ∧ n2 = n ∧ v2 = v ∧ ea2 = ea ∧ k1b = k1 ∧ k2b = k2) ∨
  ∃ j k, j < n ∧ k < r ∧ p0 = nI j ∧ p1 = nI k ∧ ((¬ lO (ea j) = ro k ∧ a = -1003 ∧ n2 = n ∧ v2 = v ∧ ea2 = ea ∧ k1b = k1 ∧ k2b = k2) ∨
    (lO (ea j) = ro k ∧ ∃ e w, 1 ≤ e ∧ e ≤ 3 ∧ w ≤ 4 ∧ re k = nI e ∧ rn k = nI w ∧ (((12 < n + (e - 1) ∨ 9 < v + w - 2) ∧ a = -1004 ∧ n2 = n ∧ v2 = v ∧ ea2 = ea ∧ k1b = k1 ∧ k2b = k2) ∨
      (n + (e - 1) ≤ 12 ∧ v + w - 2 ≤ 9 ∧ a = nI (n + (e - 1)) ∧ n2 = n + (e - 1) ∧ v2 = v + (w - 2) ∧ k1b = k1 + 1 ∧ k2b = k2 + 1 ∧ RPL ea (fun t => nwM v (ea j) (rg (3 * k + t))) ea2 j e n))))
def mDn (x : Nat → Int32) (n : Nat) : Int32 := if nI n ≤ 0 then 0 else if mop x n = 0 then 1 else 0
def KdM (ea : Nat → Int32) (n v : Nat) (r : Int32) : Prop := (mDn ea n = 0 ∧ r = -1003) ∨ (¬ mDn ea n = 0 ∧ MKd ea n v r)
