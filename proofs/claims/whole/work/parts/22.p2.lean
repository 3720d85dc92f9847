theorem m_addAnswer (m : Mem) (v : Int32) (h : 0 ≤ m 112 12 ∧ m 112 12 ≤ 4) (h2 : 0 ≤ m 112 11 ∧ m 112 11 ≤ 6) : f_X9_addAnswer m v = some (setC m 112 (tAnswer (m 112) v), ()) := by
  obtain ⟨j, hj, e⟩ := rng (b := 6) (by decide) h2.1 h2.2
  unfold f_X9_addAnswer
  have e1 : (17 : Int32) + nI j = nI (17 + j) := by rw [show (17 : Int32) = nI 17 from rfl, nI_add]
  have e2 : ix (nI j) = j := ix_nI (by omega)
  have e3 : ix (nI (17 + j)) = 17 + j := ix_nI (by omega)
  have e4 : inR (nI (17 + j)) 347 = true := inR_nI (by omega) (by decide)
  simp only [lm_def, gd_t, up_setC, setC_at, setC_setC, m_addFault m (-430) h, bm_some, show ix (11 : Int32) = 11 from rfl, show inR (11 : Int32) 347 = true from rfl, tAnswer]
  by_cases h4 : m 112 11 = 6
  · simp only [if_pos h4]
  · simp only [if_neg h4]
    rw [e, e1, e2, e3, gd_of e4]
    congr 3
    funext q
    simp only [upd]
    grind
theorem c_reply (m : Mem) (T : TT) (v : Int32) (h : RSt m 43 T) (hI : 0 ≤ T 12 ∧ T 12 ≤ 4) (hJ : 0 ≤ T 11 ∧ T 11 ≤ 6) : ∃ m', f_X3_reply 43 m v = some (m', ()) ∧ RSt m' 43 (tAnswer T v) ∧ ∀ k, (k < 43 ∨ 53 < k) → m' k = m k := by
  obtain ⟨j, hj, e⟩ := rng (b := 6) (by decide) hJ.1 hJ.2
  have h0 := h
  obtain ⟨⟨a0, a1, a2, a3, a4, a5, a6, a7, a8, a9, a10, a11, a12⟩, b1, b2, b3, b4, b5, b6, b7⟩ := h
  have ej : ix (nI j) = j := ix_nI (by omega)
  unfold f_X3_reply f_X2_add
  simp only [Nat.reduceAdd] at a11 ⊢
  simp only [bm_some, lm_def, show ln 49 = 6 from rfl, a11, e, ej, lit]
  by_cases h4 : j = 6
  · subst h4
    simp only [if_neg (show ¬ nI 6 < 0 by decide), if_neg (show ¬ nI 6 < nI 6 by decide), bm_some, if_true]
    obtain ⟨m', h1, h2, h3⟩ := c_raise m T (-430) h0 hI
    rw [h1]
    exact ⟨m', rfl, by simp only [tAnswer, if_pos (show T 11 = 6 from e)]; exact h2, h3⟩
  · have hl : j < 6 := by omega
    simp only [if_neg (nI_pos (show j < 2 ^ 31 by omega)), if_pos (nI_lt hl (by decide)), gd_of (inR_nI hl (by decide)), bm_some, lm_def]
    have h5 : ¬ T 11 = 6 := by rw [e]; intro q; exact h4 ((nI_eq (by omega) (by decide)).mp q)
    have eT : tAnswer T v = upd (upd T (17 + j) v) 11 (nI j + 1) := by unfold tAnswer; rw [if_neg h5, e, ej]
    simp only [if_neg (show ¬ (1 : Int32) = 0 by decide)]
    rw [eT]
    refine ⟨_, rfl, ⟨⟨?_, ?_, ?_, ?_, ?_, ?_, ?_, ?_, ?_, ?_, ?_, ?_, ?_⟩, ?_, ?_, ?_, ?_, ?_, ?_, ?_⟩, ?_⟩ <;> (try simp only [Nat.reduceAdd]) <;> grind [up, upd]
def tSum (T : TT) : Int32 :=
  let s := ((if T 12 ≤ 0 then 0 else 4) + (if T 11 ≤ 0 then 0 else 16)) + ((if T 1 &&& T 2 = 0 then 0 else 32) + (if T 5 &&& T 8 = 0 then 0 else 128))
  if s &&& T 3 = 0 then s else s + 64
theorem m_sum (m : Mem) : f_X9_sum m = some (m, tSum (m 112)) := by
  unfold f_X9_sum f_X9_sum_15 f_X9_sum_31 f_X9_sum_56 f_X9_sum_80
  simp only [gd_t, show ix (12 : Int32) = 12 from rfl, show inR (12 : Int32) 347 = true from rfl, show ix (11 : Int32) = 11 from rfl, show inR (11 : Int32) 347 = true from rfl, show ix (1 : Int32) = 1 from rfl, show inR (1 : Int32) 347 = true from rfl, show ix (2 : Int32) = 2 from rfl, show inR (2 : Int32) 347 = true from rfl, show ix (5 : Int32) = 5 from rfl, show inR (5 : Int32) 347 = true from rfl, show ix (8 : Int32) = 8 from rfl, show inR (8 : Int32) 347 = true from rfl, show ix (3 : Int32) = 3 from rfl, show inR (3 : Int32) 347 = true from rfl, tSum]
  by_cases h1 : m 112 12 ≤ 0 <;> by_cases h2 : m 112 11 ≤ 0 <;> by_cases h3 : m 112 1 &&& m 112 2 = 0 <;> by_cases h4 : m 112 5 &&& m 112 8 = 0 <;> simp only [h1, h2, h3, h4, if_true, if_false] <;> split <;> simp_all
theorem sumfin {m : Mem} {a s x : Int32} (ha : a = s) (hb : a ||| 64 = s + 64) : (if a &&& x = 0 then some (m, a) else some (m, a ||| 64)) = some (m, if s &&& x = 0 then s else s + 64) := by
  rw [hb, ha]
  split <;> rfl
theorem c_sum (m : Mem) (T : TT) (h : RSt m 43 T) : f_X3_sum 43 m = some (m, tSum T) := by
  obtain ⟨⟨a0, a1, a2, a3, a4, a5, a6, a7, a8, a9, a10, a11, a12⟩, -⟩ := h
  unfold f_X3_sum f_X3_sum_16 f_X3_sum_31 f_X3_sum_48 f_X3_sum_66
  simp only [Nat.reduceAdd] at a11 a12 ⊢
  simp only [a1, a2, a3, a5, a8, a11, a12, tSum]
  by_cases h1 : T 12 ≤ 0 <;> by_cases h2 : T 11 ≤ 0 <;> by_cases h3 : T 1 &&& T 2 = 0 <;> by_cases h4 : T 5 &&& T 8 = 0 <;> simp only [h1, h2, h3, h4, if_true, if_false] <;> exact sumfin (by decide) (by decide)
