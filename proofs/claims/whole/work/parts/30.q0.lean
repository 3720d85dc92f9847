/-! the calls that only read, and the small ones -/
theorem c_isNode {m : Mem} {T : TT} (h : RSt m 43 T) (hI : IT T) (x : Int32) : f_X8_isNode m x = some (m, if 0 ≤ x ∧ x < T 0 then 1 else 0) := by
  have e : m 43 0 = T 0 := h.1.1
  have := hI.1
  unfold f_X8_isNode
  rw [e]
  grind
theorem m_isNode {m : Mem} {T : TT} (h : m 112 = T) (hI : IT T) (x : Int32) : f_X9_isNode m x = some (m, if 0 ≤ x ∧ x < T 0 then 1 else 0) := by
  have := hI.1
  unfold f_X9_isNode
  rw [show inR 0 347 = true from rfl, gd_t, m_in, bm_some, gd_of isB01, h, show ix 0 = 0 from rfl]
  grind
theorem node_of {T : TT} (hI : IT T) {x : Int32} (h : 0 ≤ x ∧ x < T 0) : ∃ j, j < 16 ∧ x = nI j ∧ ix x = j ∧ j < ix (T 0) ∧ nI j < T 0 := by
  obtain ⟨j, hj, e⟩ := rng (b := 15) (by decide) h.1 (by have := hI.1; show x ≤ 15; grind)
  obtain ⟨k, hk, e2⟩ := rng (b := 16) (x := T 0) (by decide) (by have := hI.1; grind) hI.1.2
  refine ⟨j, by omega, e, by rw [e, ix_nI (by omega)], ?_, by rw [← e]; exact h.2⟩
  rw [e2, ix_nI (by omega)]
  rw [e, e2] at h
  exact (nI_ltI (by omega) (by omega)).mp h.2
theorem c_isValue {m : Mem} {T : TT} (h : RSt m 43 T) (hn : RNd m T) (hI : IT T) (x : Int32) : f_X8_isValueNode m x = some (m, if (0 ≤ x ∧ x < T 0) ∧ T (27 + 20 * ix x + 1) = 1 then 1 else 0) := by
  unfold f_X8_isValueNode
  rw [c_isNode h hI, bm_some, if01]
  by_cases hx : 0 ≤ x ∧ x < T 0
  · obtain ⟨j, h1, h2, h3, h4, h5⟩ := node_of hI hx
    rw [if_pos hx, h3, h2, gd_of (inR_nI h1 (by decide)), (hn j h4 h1).2.1]
    rw [h2] at hx
    by_cases e : T (27 + 20 * j + 1) = 1 <;> simp [e, hx]
  · rw [if_neg hx]
    simp [hx]
theorem c_isParent {m : Mem} {T : TT} (h : RSt m 43 T) (hn : RNd m T) (hI : IT T) (x : Int32) : f_X8_isParent m x = some (m, if (0 ≤ x ∧ x < T 0) ∧ T (27 + 20 * ix x + 1) = 0 then 1 else 0) := by
  unfold f_X8_isParent
  rw [c_isNode h hI, bm_some, if01]
  by_cases hx : 0 ≤ x ∧ x < T 0
  · obtain ⟨j, h1, h2, h3, h4, h5⟩ := node_of hI hx
    rw [if_pos hx, h3, h2, gd_of (inR_nI h1 (by decide)), (hn j h4 h1).2.1]
    rw [h2] at hx
    by_cases e : T (27 + 20 * j + 1) = 0 <;> simp [e, hx]
  · rw [if_neg hx]
    simp [hx]
theorem m_isValue {m : Mem} {T : TT} (h : m 112 = T) (hI : IT T) (x : Int32) : f_X9_isKind m x 1 = some (m, if (0 ≤ x ∧ x < T 0) ∧ T (27 + 20 * ix x + 1) = 1 then 1 else 0) := by
  unfold f_X9_isKind
  rw [m_isNode h hI, bm_some, if01]
  by_cases hx : 0 ≤ x ∧ x < T 0
  · obtain ⟨j, h1, h2, h3, h4, h5⟩ := node_of hI hx
    rw [if_pos hx, h3]
    by_cases h0 : x ≤ 0
    · rw [if_pos h0]
      have : j = 0 := by
        have : x = 0 := by grind
        rw [← h3, this]; rfl
      subst this
      have e : T (27 + 20 * 0 + 1) = 0 := hI.2.2.2.2.2.1.2.1
      simp [e]
    · rw [if_neg h0, h2, show (1 : Int32) = nI 1 from rfl, m_ofNode m h1 (by decide), bm_some, h]
      rw [h2] at hx
      by_cases e : T (27 + 20 * j + 1) = nI 1 <;> simp [e, hx]
  · rw [if_neg hx]
    simp [hx]
theorem s_told {m : Mem} {T : TT} {p : Nat} {P : Nat → TT} {n : Nat} {t q : TT} (h : Sim m T p P n t q) (x : Int32) : Res (fun m => f_X8_told m x) (fun m => f_X9_told m x) m := by
  by_cases hx : 0 ≤ x ∧ x ≤ 4
  · obtain ⟨j, hj, e⟩ := rng (b := 4) (by decide) hx.1 hx.2
    obtain ⟨⟨h1, h2⟩, h3, h4, h5, h6, ⟨h7, h8⟩, ⟨a, b, c⟩⟩ := h.1
    refine h.same (if j < 3 then q j else if j = 3 then nI n else nI p) ?_ (fun m1 r => ?_)
    · show f_X8_told m x = _
      unfold f_X8_told f_X8_tally
      simp only [c_within, bm_some, if01, if_pos hx, bm_id]
      rcases (show j = 0 ∨ j = 1 ∨ j = 2 ∨ j = 3 ∨ j = 4 by omega) with e2 | e2 | e2 | e2 | e2 <;> subst e2 <;> subst e
      · show some (m, m 0 5) = _; rw [a]; rfl
      · show some (m, m 0 6) = _; rw [b]; rfl
      · show some (m, m 0 7) = _; rw [c]; rfl
      · show some (m, m 1 1) = _; rw [h7]; rfl
      · show some (m, m 54 1) = _; rw [h1]; rfl
    · show f_X9_told m1 x = _
      obtain ⟨r1, r2, r3, r4, r5, r6⟩ := r
      unfold f_X9_told f_X9_toldOf
      simp only [m_in, bm_some, if01, if_pos hx, bm_id]
      rcases (show j = 0 ∨ j = 1 ∨ j = 2 ∨ j = 3 ∨ j = 4 by omega) with e2 | e2 | e2 | e2 | e2 <;> subst e2 <;> subst e
      · show some (m1, m1 115 0) = _; rw [r6 0 (by decide)]; rfl
      · show some (m1, m1 115 1) = _; rw [r6 1 (by decide)]; rfl
      · show some (m1, m1 115 2) = _; rw [r6 2 (by decide)]; rfl
      · show some (m1, m1 111 6) = _; rw [r4]; rfl
      · show some (m1, m1 111 3) = _; rw [r1]; rfl
  · refine h.ref 0 (by decide) ?_ (fun m1 _ => ?_)
    · show f_X8_told m x = _
      unfold f_X8_told
      simp only [c_within, bm_some, if01, if_neg hx, bm_id]
      rfl
    · show f_X9_told m1 x = _
      unfold f_X9_told
      simp only [m_in, bm_some, if01, if_neg hx, bm_id]
      rfl
def tState (T : TT) (j : Nat) : Int32 := if j = 3 then tSum T else if j = 13 then T 0 else if j < 3 then T (1 + j) else T j
theorem c_reading {m : Mem} {T : TT} (h : RSt m 43 T) (hI : IT T) {j : Nat} (hj : j < 14) : f_X3_reading 43 m (nI j) = some (m, tState T j) := by
  have hs := c_sum m T h
  obtain ⟨⟨a0, a1, a2, a3, a4, a5, a6, a7, a8, a9, a10, a11, a12⟩, -⟩ := h
  have hb := hI.2.2.2.2.1
  unfold f_X3_reading
  simp only [Nat.reduceAdd] at a9 a11 a12
  rcases (show j = 0 ∨ j = 1 ∨ j = 2 ∨ j = 3 ∨ j = 4 ∨ j = 5 ∨ j = 6 ∨ j = 7 ∨ j = 8 ∨ j = 9 ∨ j = 10 ∨ j = 11 ∨ j = 12 ∨ j = 13 by omega) with e2 | e2 | e2 | e2 | e2 | e2 | e2 | e2 | e2 | e2 | e2 | e2 | e2 | e2 <;> subst e2
  · show some (m, m 43 8) = _; rw [a1]; rfl
  · show some (m, m 43 9) = _; rw [a2]; rfl
  · show some (m, m 43 10) = _; rw [a3]; rfl
  · show bm (f_X3_sum 43 m) (fun m1 r1 => some (m1, r1)) = _; rw [hs]; rfl
  · show some (m, m 43 11) = _; rw [a4]; rfl
  · show some (m, m 43 12) = _; rw [a5]; rfl
  · show some (m, m 43 13) = _; rw [a6]; rfl
  · show some (m, m 43 14) = _; rw [a7]; rfl
  · show some (m, m 43 15) = _; rw [a8]; rfl
  · show some (m, m 52 1) = _; rw [a9]; rfl
  · show (if m 43 16 = 0 then some (m, 0) else some (m, 1)) = some (m, T 10)
    rw [a10]
    rcases hb with hb | hb <;> rw [hb] <;> rfl
  · show some (m, m 48 1) = _; rw [a11]; rfl
  · show some (m, m 50 1) = _; rw [a12]; rfl
  · show some (m, m 43 0) = _; rw [a0]; rfl
theorem m_stateOf {m : Mem} {T : TT} (h : m 112 = T) {j : Nat} (hj : j < 14) : f_X9_stateOf m (nI j) = some (m, tState T j) := by
  have hs := m_sum m
  rw [h] at hs
  unfold f_X9_stateOf
  rcases (show j = 0 ∨ j = 1 ∨ j = 2 ∨ j = 3 ∨ j = 4 ∨ j = 5 ∨ j = 6 ∨ j = 7 ∨ j = 8 ∨ j = 9 ∨ j = 10 ∨ j = 11 ∨ j = 12 ∨ j = 13 by omega) with e2 | e2 | e2 | e2 | e2 | e2 | e2 | e2 | e2 | e2 | e2 | e2 | e2 | e2 <;> subst e2
  · show some (m, m 112 1) = _; rw [h]; rfl
  · show some (m, m 112 2) = _; rw [h]; rfl
  · show some (m, m 112 3) = _; rw [h]; rfl
  · show bm (f_X9_sum m) (fun m1 r1 => some (m1, r1)) = _; rw [hs]; rfl
  · show some (m, m 112 4) = _; rw [h]; rfl
  · show some (m, m 112 5) = _; rw [h]; rfl
  · show some (m, m 112 6) = _; rw [h]; rfl
  · show some (m, m 112 7) = _; rw [h]; rfl
  · show some (m, m 112 8) = _; rw [h]; rfl
  · show some (m, m 112 9) = _; rw [h]; rfl
  · show some (m, m 112 10) = _; rw [h]; rfl
  · show some (m, m 112 11) = _; rw [h]; rfl
  · show some (m, m 112 12) = _; rw [h]; rfl
  · show some (m, m 112 0) = _; rw [h]; rfl
theorem s_state {m : Mem} {T : TT} {p : Nat} {P : Nat → TT} {n : Nat} {t q : TT} (h : Sim m T p P n t q) (x : Int32) : Res (fun m => f_X8_state m x) (fun m => f_X9_state m x) m := by
  by_cases hx : 0 ≤ x ∧ x ≤ 13
  · obtain ⟨j, hj, e⟩ := rng (b := 13) (by decide) hx.1 hx.2
    refine h.same (tState T j) ?_ (fun m1 r => ?_)
    · show f_X8_state m x = _
      unfold f_X8_state
      simp only [c_within, bm_some, if01, if_pos hx, bm_id]
      rw [e]
      exact c_reading h.1.2.2.1 h.2.2.1 (by omega)
    · show f_X9_state m1 x = _
      unfold f_X9_state
      simp only [m_in, bm_some, if01, if_pos hx, bm_id]
      rw [e]
      exact m_stateOf r.2.1 (by omega)
  · refine h.ref 0 (by decide) ?_ (fun m1 _ => ?_)
    · show f_X8_state m x = _
      unfold f_X8_state
      simp only [c_within, bm_some, if01, if_neg hx, bm_id]
      rfl
    · show f_X9_state m1 x = _
      unfold f_X9_state
      simp only [m_in, bm_some, if01, if_neg hx, bm_id]
      rfl
