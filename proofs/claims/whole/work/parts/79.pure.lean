theorem law_pure (L : Nat) (hL : L ≤ 2560) (xs : Nat → Int32) : ∃ (N : Nat) (σ : Mem), f_L_law N L xs m_init = some (σ, 1) := by
  sorry
