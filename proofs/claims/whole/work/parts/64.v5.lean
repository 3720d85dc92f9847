theorem code_cw {n : Nat} {t : TT} {s h : Nat} (hl : ∀ j, s ≤ j → j < h → isLet (ch n t j) = true) (h1 : 1 ≤ h - s) : (cwR n t s h = 1 ∧ cdF n t s (h - s) = 3475) ∨ (cwR n t s h = 2 ∧ cdF n t s (h - s) = 5733) ∨ (cwR n t s h = 3 ∧ cdF n t s (h - s) = 20037) ∨ (cwR n t s h = 4 ∧ cdF n t s (h - s) = 5746) ∨ (cwR n t s h = 5 ∧ cdF n t s (h - s) = 20098) ∨ (cwR n t s h = 6 ∧ cdF n t s (h - s) = 15875) ∨ (cwR n t s h = 7 ∧ cdF n t s (h - s) = 19060) ∨ (cwR n t s h = 0 ∧ cdF n t s (h - s) ≠ 3475 ∧ cdF n t s (h - s) ≠ 5733 ∧ cdF n t s (h - s) ≠ 20037 ∧ cdF n t s (h - s) ≠ 5746 ∧ cdF n t s (h - s) ≠ 20098 ∧ cdF n t s (h - s) ≠ 15875 ∧ cdF n t s (h - s) ≠ 19060) := by
  have g0 := code_sp (k := 0) hl h1 (by decide)
  have g1 := code_sp (k := 1) hl h1 (by decide)
  have g2 := code_sp (k := 2) hl h1 (by decide)
  have g3 := code_sp (k := 3) hl h1 (by decide)
  have g4 := code_sp (k := 4) hl h1 (by decide)
  have g5 := code_sp (k := 5) hl h1 (by decide)
  have g6 := code_sp (k := 6) hl h1 (by decide)
  generalize cdF n t s (h - s) = C at *
  unfold cwR
  by_cases q0 : spR n t 0 s h
  · rw [if_pos q0]; exact .inl ⟨rfl, g0.mpr q0⟩
  rw [if_neg q0]
  by_cases q1 : spR n t 1 s h
  · rw [if_pos q1]; exact .inr (.inl ⟨rfl, g1.mpr q1⟩)
  rw [if_neg q1]
  by_cases q2 : spR n t 2 s h
  · rw [if_pos q2]; exact .inr (.inr (.inl ⟨rfl, g2.mpr q2⟩))
  rw [if_neg q2]
  by_cases q3 : spR n t 3 s h
  · rw [if_pos q3]; exact .inr (.inr (.inr (.inl ⟨rfl, g3.mpr q3⟩)))
  rw [if_neg q3]
  by_cases q4 : spR n t 4 s h
  · rw [if_pos q4]; exact .inr (.inr (.inr (.inr (.inl ⟨rfl, g4.mpr q4⟩))))
  rw [if_neg q4]
  by_cases q5 : spR n t 5 s h
  · rw [if_pos q5]; exact .inr (.inr (.inr (.inr (.inr (.inl ⟨rfl, g5.mpr q5⟩)))))
  rw [if_neg q5]
  by_cases q6 : spR n t 6 s h
  · rw [if_pos q6]; exact .inr (.inr (.inr (.inr (.inr (.inr (.inl ⟨rfl, g6.mpr q6⟩))))))
  rw [if_neg q6]
  exact .inr (.inr (.inr (.inr (.inr (.inr (.inr ⟨rfl, fun z => q0 (g0.mp z), fun z => q1 (g1.mp z), fun z => q2 (g2.mp z), fun z => q3 (g3.mp z), fun z => q4 (g4.mp z), fun z => q5 (g5.mp z), fun z => q6 (g6.mp z)⟩))))))
/-- the model's code of a word -/
def CW (k : Nat) (C : Int32) : Prop := (k = 1 ∧ C = 3475) ∨ (k = 2 ∧ C = 5733) ∨ (k = 3 ∧ C = 20037) ∨ (k = 4 ∧ C = 5746) ∨ (k = 5 ∧ C = 20098) ∨ (k = 6 ∧ C = 15875) ∨ (k = 7 ∧ C = 19060) ∨ (k = 0 ∧ C ≠ 3475 ∧ C ≠ 5733 ∧ C ≠ 20037 ∧ C ≠ 5746 ∧ C ≠ 20098 ∧ C ≠ 15875 ∧ C ≠ 19060)
theorem m_form {m : Mem} {k : Nat} {q : Bool} (hc : CW k (m 111 18)) (h19 : m 111 19 = b2i q) : f_X9_form m = some (m, if fmR k q = true then b2i (decide ((k = 2 ∨ k = 3) ∧ q = false)) else -10001) := by
  unfold f_X9_form f_X9_form_20 f_X9_form_55 f_X9_form_90
  rw [h19]
  rcases hc with ⟨e, c⟩ | ⟨e, c⟩ | ⟨e, c⟩ | ⟨e, c⟩ | ⟨e, c⟩ | ⟨e, c⟩ | ⟨e, c⟩ | ⟨e, c1, c2, c3, c4, c5, c6, c7⟩
  · subst e; rw [c]; cases q <;> rfl
  · subst e; rw [c]; cases q <;> rfl
  · subst e; rw [c]; cases q <;> rfl
  · subst e; rw [c]; cases q <;> rfl
  · subst e; rw [c]; cases q <;> rfl
  · subst e; rw [c]; cases q <;> rfl
  · subst e; rw [c]; cases q <;> rfl
  · subst e
    rw [if_neg c1, if_neg c7, if_neg c4, if_neg c5, if_neg c2, if_neg c3, if_neg c6]
    cases q <;> rfl
