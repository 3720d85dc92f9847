/-! orders: setting a number, acting -/
def tNum (T : TT) (j s : Nat) (v : Int32) : TT := if T (27 + 20 * j + 4) ≤ v ∧ v ≤ T (27 + 20 * j + 5) then upd T (27 + 20 * j + 6 + s) v else tFault T (-222)
theorem c_setNum {m : Mem} {T : TT} (h : RSt m 43 T) (hI : 0 ≤ T 12 ∧ T 12 ≤ 4) {j s : Nat} (hj : j < 16) (hs : s < 3) (v : Int32) : ∃ m', f_X3_setNumber 43 m (nI j) (nI (s + 1)) v = some (m', ()) ∧ RSt m' 43 (tNum T j s v) ∧ SF m m' := by
  unfold f_X3_setNumber tNum
  have e4 : m (43 + 1) j = T (27 + 20 * j + 4) := h.2.2.2.2.1 j hj
  have e5 : m (43 + 2) j = T (27 + 20 * j + 5) := h.2.2.2.2.2.1 j hj
  rw [gd_of (inR_nI hj (by decide)), gd_of (inR_nI hj (by decide)), ix_nI (by omega), e4, e5, c_within, bm_some, if01]
  by_cases q : T (27 + 20 * j + 4) ≤ v ∧ v ≤ T (27 + 20 * j + 5)
  · rw [if_pos q, if_pos q, c_putNumber m 43 v hj hs, bm_some]
    exact ⟨_, rfl, RS_num v hj hs h, SF.u (by omega)⟩
  · rw [if_neg q, if_neg q]
    obtain ⟨m', a1, a2, a3⟩ := c_raise m T (-222) h hI
    rw [a1, bm_some]
    exact ⟨m', rfl, a2, a3⟩
def tDone (T : TT) (j : Nat) : TT := upd T (27 + 20 * j + 9) (T (27 + 20 * j + 9) + 1)
def tAct (T : TT) (j : Nat) (slow : Bool) : TT := if slow = true then (if T 9 = 4 then tFault T (-222) else tDone (upd (upd T (13 + ix (T 9)) (nI j)) 9 (T 9 + 1)) j) else tDone T j
theorem c_act {m : Mem} {T : TT} (h : RSt m 43 T) (hI : IT T) {j : Nat} (hj : j < 16) (slow : Bool) : ∃ m', f_X3_act 43 m (nI j) (b2i slow) = some (m', ()) ∧ RSt m' 43 (tAct T j slow) ∧ SF m m' := by
  have done : ∀ (M : Mem) (S : TT), RSt M 43 S → ∃ m', f_X3_act_23 43 M (nI j) = some (m', ()) ∧ RSt m' 43 (tDone S j) ∧ SF M m' := by
    intro M S r
    unfold f_X3_act_23
    rw [gd_of (inR_nI hj (by decide)), gd_of (inR_nI hj (by decide)), ix_nI (by omega), lm_def, show M (43 + 3) j = _ from r.2.2.2.2.2.2.1 j hj]
    exact ⟨_, rfl, RS_times _ hj r, SF.u (by omega)⟩
  unfold f_X3_act tAct
  cases slow with
  | false =>
    rw [if_pos (show b2i false = 0 by decide)]
    exact done m T h
  | true =>
    rw [if_neg (show ¬ b2i true = 0 by decide), if_pos rfl]
    obtain ⟨a, ha, e⟩ := rng (b := 4) (by decide) hI.2.1.1 hI.2.1.2
    have e9 : m 52 1 = nI a := by rw [← e]; exact h.1.2.2.2.2.2.2.2.2.2.1
    unfold f_X2_add
    simp only [Nat.reduceAdd, e9, show ln 53 = 4 from rfl, lit, ix_nI (show a < 2 ^ 31 by omega), if_neg (nI_pos (show a < 2 ^ 31 by omega))]
    by_cases h4 : a = 4
    · rw [if_neg (show ¬ nI a < nI 4 by rw [h4]; decide), bm_some, if_pos rfl, if_pos (show T 9 = 4 by rw [e, h4]; rfl)]
      obtain ⟨m', a1, a2, a3⟩ := c_raise m T (-222) h hI.2.2.2.1
      rw [a1, bm_some]
      exact ⟨m', rfl, a2, a3⟩
    · have e9' : ∀ w, up m 53 a w 52 1 = nI a := fun w => by rw [up_ne (by decide), e9]
      simp only [if_pos (nI_lt (show a < 4 by omega) (show 4 < 2 ^ 31 by decide)), gd_of (inR_nI (show a < 4 by omega) (show 4 < 2 ^ 31 by decide)), lm_def, e9', bm_some, if_neg (show ¬ (1 : Int32) = 0 by decide)]
      rw [if_neg (show ¬ T 9 = 4 by rw [e]; exact fun z => h4 ((nI_eq (b := 4) (by omega) (by decide)).mp z)), e, ix_nI (by omega)]
      obtain ⟨m', a1, a2, a3⟩ := done _ _ (RS_9 (nI a + 1) (RS_pen (nI j) (show a < 4 by omega) h))
      exact ⟨m', a1, a2, ((SF.u (by omega)).tr (SF.u (by omega))).tr a3⟩
