def RuX (pf : Nat → Int32) (z r r2 : Nat) (ρ2 : Nat → RT) : Prop := r2 = r + 1 → RNx pf z (ρ2 r)
