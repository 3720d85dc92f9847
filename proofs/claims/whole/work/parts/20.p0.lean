theorem bm_some {α β : Type} (a : Mem) (b : β) (k : Mem → β → Option α) : bm (some (a, b)) k = k a b := rfl
theorem lm_def {α : Type} (a : Mem) (k : Mem → Option α) : lm a k = k a := rfl
theorem gd_of {α : Type} {b : Bool} (h : b = true) (x : Option α) : gd b x = x := by rw [h]; rfl
theorem t1 (m : Mem) (x a b : Int32) : f_X8_isWithin m x a b = some (m, if a ≤ x ∧ x ≤ b then 1 else 0) := by
  unfold f_X8_isWithin
  grind
theorem t2 (n w : Nat) (h : n < 16) (hw : w < 20) : ix (27 + 20 * nI n + nI w) = 27 + 20 * n + w := by
  have e : (27 : Int32) + 20 * nI n + nI w = nI (27 + 20 * n + w) := by
    rw [show (27 : Int32) = nI 27 from rfl, show (20 : Int32) = nI 20 from rfl, pk_mul, nI_add, nI_add]
  rw [e]
  exact nI_clamp (by omega)
theorem t3 (x : Int32) (h : 0 ≤ x) (h2 : x ≤ 3) : x = 0 ∨ x = 1 ∨ x = 2 ∨ x = 3 := by
  grind
theorem t4 (x y : Int32) (h : 0 ≤ x) (h2 : x ≤ 3) (h3 : y = x + 1) : y ≤ 4 ∧ 0 < y := by
  grind
