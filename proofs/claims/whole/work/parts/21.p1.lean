theorem c_event (m : Mem) (c : Int32) : f_X3_eventOf m c = some (m, evOf c) := by
  unfold f_X3_eventOf evOf
  grind
theorem c_raise (m : Mem) (T : TT) (c : Int32) (h : RSt m 43 T) (hI : 0 ≤ T 12 ∧ T 12 ≤ 4) : ∃ m', f_X3_raise 43 m c = some (m', ()) ∧ RSt m' 43 (tFault T c) ∧ ∀ k, (k < 43 ∨ 53 < k) → m' k = m k := by
  obtain ⟨j, hj, e⟩ := rng (b := 4) (by decide) hI.1 hI.2
  obtain ⟨⟨a0, a1, a2, a3, a4, a5, a6, a7, a8, a9, a10, a11, a12⟩, b1, b2, b3, b4, b5, b6, b7⟩ := h
  have ej : ix (nI j) = j := ix_nI (by omega)
  unfold f_X3_raise f_X2_add f_X2_changeLast
  simp only [c_event, bm_some, lm_def, Nat.reduceAdd, show ln 51 = 4 from rfl]
  have u1 : up m 43 8 (m 43 8 ||| evOf c) 50 1 = nI j := by rw [up_ne (by decide), a12, e]
  simp only [u1, ej, lit]
  by_cases h4 : j = 4
  · subst h4
    simp only [if_neg (show ¬ nI 4 < 0 by decide), if_neg (show ¬ nI 4 < nI 4 by decide), bm_some, u1, if_neg (show ¬ nI 4 ≤ 0 by decide), show inR (nI 4 - 1) 4 = true from rfl, gd_t, lm_def, show ix (nI 4 - 1) = 3 from rfl, if_true]
    refine ⟨_, rfl, ⟨⟨?_, ?_, ?_, ?_, ?_, ?_, ?_, ?_, ?_, ?_, ?_, ?_, ?_⟩, ?_, ?_, ?_, ?_, ?_, ?_, ?_⟩, ?_⟩ <;> (try simp only [tFault, if_pos (show T 12 = 4 from e), Nat.reduceAdd]) <;> grind [up, upd]
  · have hl : j < 4 := by omega
    simp only [if_neg (nI_pos (show j < 2 ^ 31 by omega)), if_pos (nI_lt hl (by decide)), gd_of (inR_nI hl (by decide)), bm_some, lm_def]
    have u2 : up (up m 43 8 (m 43 8 ||| evOf c)) 51 j c 50 1 = nI j := by rw [up_ne (by decide)]; exact u1
    simp only [u2, if_neg (show ¬ (1 : Int32) = 0 by decide)]
    have h5 : ¬ T 12 = 4 := by rw [e]; intro q; exact h4 ((nI_eq (by omega) (by decide)).mp q)
    refine ⟨_, rfl, ⟨⟨?_, ?_, ?_, ?_, ?_, ?_, ?_, ?_, ?_, ?_, ?_, ?_, ?_⟩, ?_, ?_, ?_, ?_, ?_, ?_, ?_⟩, ?_⟩ <;> (try simp only [tFault, if_neg h5, Nat.reduceAdd, e, ej]) <;> grind [up, upd]
