def tOf (T : TT) (j w : Nat) : Int32 := if w = 6 then T (27 + 20 * j + 10) else if w = 7 then T (27 + 20 * j + 11) else if w = 8 then T (27 + 20 * j + 9) else T (27 + 20 * j + w)
theorem c_nodeReading {m : Mem} {T : TT} (h : RSt m 43 T) (hn : RNd m T) {j w : Nat} (hj : j < 16) (hj2 : j < ix (T 0)) (hw : w < 9) : f_X8_nodeReading m (nI j) (nI w) = some (m, tOf T j w) := by
  obtain ⟨-, -, -, -, b4, b5, b6, -⟩ := h
  obtain ⟨a0, a1, a2, a3, a4, a5, -⟩ := hn j hj2 hj
  have c4 := b4 j hj
  have c5 := b5 j hj
  have c6 := b6 j hj
  unfold f_X8_nodeReading
  rw [gd_of (inR_nI hj (by decide)), ix_nI (by omega)]
  rcases (show w = 0 ∨ w = 1 ∨ w = 2 ∨ w = 3 ∨ w = 4 ∨ w = 5 ∨ w = 6 ∨ w = 7 ∨ w = 8 by omega) with e2 | e2 | e2 | e2 | e2 | e2 | e2 | e2 | e2 <;> subst e2
  · show some (m, m (6 + 2 * j) 0) = _; rw [a0]; rfl
  · show some (m, m (6 + 2 * j) 1) = _; rw [a1]; rfl
  · show some (m, m (6 + 2 * j) 2) = _; rw [a2]; rfl
  · show some (m, m (6 + 2 * j) 3) = _; rw [a3]; rfl
  · show gd (inR (nI j) 16) (some (m, m 44 j)) = _; rw [gd_of (inR_nI hj (by decide)), c4]; rfl
  · show gd (inR (nI j) 16) (some (m, m 45 j)) = _; rw [gd_of (inR_nI hj (by decide)), c5]; rfl
  · show some (m, m (6 + 2 * j) 4) = _; rw [a4]; rfl
  · show some (m, m (6 + 2 * j) 5) = _; rw [a5]; rfl
  · show gd (inR (nI j) 16) (some (m, m 46 j)) = _; rw [gd_of (inR_nI hj (by decide)), c6]; rfl
theorem m_toldOfNode {m : Mem} {T : TT} (h : m 112 = T) {j w : Nat} (hj : j < 16) (hw : w < 9) : f_X9_toldOfNode m (nI j) (nI w) = some (m, tOf T j w) := by
  unfold f_X9_toldOfNode tOf
  simp only [bm_id]
  rw [← h]
  by_cases h6 : w = 6
  · subst h6; exact m_ofNode m hj (w := 10) (by decide)
  by_cases h7 : w = 7
  · subst h7; exact m_ofNode m hj (w := 11) (by decide)
  by_cases h8 : w = 8
  · subst h8; exact m_ofNode m hj (w := 9) (by decide)
  rw [if_neg (show ¬ nI w = (6 : Int32) from fun q => h6 ((nI_eq (b := 6) (by omega) (by decide)).mp q)), if_neg (show ¬ nI w = (7 : Int32) from fun q => h7 ((nI_eq (b := 7) (by omega) (by decide)).mp q)), if_neg (show ¬ nI w = (8 : Int32) from fun q => h8 ((nI_eq (b := 8) (by omega) (by decide)).mp q)), if_neg h6, if_neg h7, if_neg h8]
  exact m_ofNode m hj (by omega)
theorem s_of {m : Mem} {T : TT} {p : Nat} {P : Nat → TT} {n : Nat} {t q : TT} (h : Sim m T p P n t q) (x y : Int32) : Res (fun m => f_X8_of m x y) (fun m => f_X9_of m x y) m := by
  have hI := h.2.2.1
  by_cases hx : (0 ≤ x ∧ x < T 0) ∧ (0 ≤ y ∧ y ≤ 8)
  · obtain ⟨j, h1, h2, h3, h4, h5⟩ := node_of hI hx.1
    obtain ⟨w, hw, e⟩ := rng (b := 8) (by decide) hx.2.1 hx.2.2
    refine h.same (tOf T j w) ?_ (fun m1 r => ?_)
    · show f_X8_of m x y = _
      unfold f_X8_of
      rw [c_isNode h.1.2.2.1 hI, bm_some, if01, if_pos hx.1, c_within, bm_some, if01, if_pos hx.2, bm_id, h2, e]
      exact c_nodeReading h.1.2.2.1 h.1.2.2.2.1 h1 h4 (by omega)
    · show f_X9_of m1 x y = _
      unfold f_X9_of
      rw [m_isNode r.2.1 hI, bm_some, if01, if_pos hx.1, m_in, bm_some, if01, if_pos hx.2, bm_id, h2, e]
      exact m_toldOfNode r.2.1 h1 (by omega)
  · refine h.ref 0 (by decide) ?_ (fun m1 r => ?_)
    · show f_X8_of m x y = _
      unfold f_X8_of f_X8_of_18
      rw [c_isNode h.1.2.2.1 hI, bm_some, if01, c_within, bm_some, if01, bm_id, bm_id]
      by_cases h1 : 0 ≤ x ∧ x < T 0
      · rw [if_pos h1, if_neg (fun q => hx ⟨h1, q⟩)]; rfl
      · rw [if_neg h1]; rfl
    · show f_X9_of m1 x y = _
      unfold f_X9_of f_X9_of_27
      rw [m_isNode r.2.1 hI, bm_some, if01, m_in, bm_some, if01, bm_id, bm_id]
      by_cases h1 : 0 ≤ x ∧ x < T 0
      · rw [if_pos h1, if_neg (fun q => hx ⟨h1, q⟩)]; rfl
      · rw [if_neg h1]; rfl
theorem s_value {m : Mem} {T : TT} {p : Nat} {P : Nat → TT} {n : Nat} {t q : TT} (h : Sim m T p P n t q) (x y : Int32) : Res (fun m => f_X8_value m x y) (fun m => f_X9_value m x y) m := by
  have hI := h.2.2.1
  by_cases hx : ((0 ≤ x ∧ x < T 0) ∧ T (27 + 20 * ix x + 1) = 1) ∧ (1 ≤ y ∧ y ≤ 3)
  · obtain ⟨j, h1, h2, h3, h4, h5⟩ := node_of hI hx.1.1
    obtain ⟨w, hw, e⟩ := rng (b := 3) (x := y) (by decide) (by grind) hx.2.2
    have hw1 : 1 ≤ w := by
      rcases Nat.eq_zero_or_pos w with h0 | h0
      · subst h0; rw [e] at hx; exact absurd hx.2.1 (by decide)
      · exact h0
    obtain ⟨s, rfl⟩ : ∃ s, w = s + 1 := ⟨w - 1, by omega⟩
    refine h.same (T (27 + 20 * j + 6 + s)) ?_ (fun m1 r => ?_)
    · show f_X8_value m x y = _
      unfold f_X8_value
      rw [c_isValue h.1.2.2.1 h.1.2.2.2.1 hI, bm_some, if01, if_pos hx.1, c_within, bm_some, if01, if_pos hx.2, bm_id, h2, e, c_numberOf m 43 h1 (by omega), h.1.2.2.1.2.2.2.2.2.2.2 j s h1 (by omega)]
    · show f_X9_value m1 x y = _
      unfold f_X9_value
      have e1 : (6 : Int32) + nI (s + 1) - 1 = nI (6 + s) := by rw [show (6 : Int32) = nI 6 from rfl, show (1 : Int32) = nI 1 from rfl, nI_add, pk_sub (by omega)]; rfl
      rw [m_isValue r.2.1 hI, bm_some, if01, if_pos hx.1, m_in, bm_some, if01, if_pos hx.2, bm_id, h2, e, e1, m_ofNode m1 h1 (by omega), r.2.1, show 27 + 20 * j + (6 + s) = 27 + 20 * j + 6 + s by omega]
  · refine h.ref 0 (by decide) ?_ (fun m1 r => ?_)
    · show f_X8_value m x y = _
      unfold f_X8_value f_X8_value_17
      rw [c_isValue h.1.2.2.1 h.1.2.2.2.1 hI, bm_some, if01, c_within, bm_some, if01, bm_id, bm_id]
      by_cases h1 : (0 ≤ x ∧ x < T 0) ∧ T (27 + 20 * ix x + 1) = 1
      · rw [if_pos h1, if_neg (fun q => hx ⟨h1, q⟩)]; rfl
      · rw [if_neg h1]; rfl
    · show f_X9_value m1 x y = _
      unfold f_X9_value f_X9_value_32
      rw [m_isValue r.2.1 hI, bm_some, if01, m_in, bm_some, if01, bm_id, bm_id]
      by_cases h1 : (0 ≤ x ∧ x < T 0) ∧ T (27 + 20 * ix x + 1) = 1
      · rw [if_pos h1, if_neg (fun q => hx ⟨h1, q⟩)]; rfl
      · rw [if_neg h1]; rfl
theorem SS_lo {T : TT} {j : Nat} {v : Int32} (h0 : j ≠ 0) (h : j < 27) : SS T (upd T j v) := SS.upd h0 (fun n w _ _ => by omega)
theorem ID_lo {T : TT} {j : Nat} {v : Int32} (d : ID T) (h : j < 27) (h9 : j ≠ 9) (h10 : j ≠ 10) (h11 : j ≠ 11) (h12 : j ≠ 12) : ID (upd T j v) := by
  obtain ⟨d1, d2, d3, d4, d5⟩ := d
  refine ⟨?_, ?_, ?_, ?_, ?_⟩ <;> grind [upd]
theorem s_edges {m : Mem} {T : TT} {p : Nat} {P : Nat → TT} {n : Nat} {t q : TT} (N : Nat) (hN : 1400 ≤ N) (h : Sim m T p P n t q) : Res (fun m => f_X8_edges N m) (fun m => f_X9_edges N m) m := by
  refine h.chg N hN (upd T 5 0) (T 5) (fun m1 => lm (up m1 43 12 0) (fun m2 => some (m2, (m1 43 12)))) (fun m1 => gd (inR 5 347) (gd (inR 5 347) (lm (up m1 112 (ix 5) 0) (fun m2 => bm (f_X9_push N m2) (fun m3 _ => some (m3, (m1 112 (ix 5)))))))) (fun m3 => some (m3, T 5)) rfl ?_ (fun _ _ => rfl) ?_ (fun _ _ => rfl) (SS_lo (by decide) (by decide)) (ID_lo h.2.2.1.id (by decide) (by decide) (by decide) (by decide) (by decide))
  · intro m1 r f
    refine ⟨_, ?_, RS_5 0 r, fun k hk => up_ne (by omega)⟩
    show some (up m1 43 12 0, m1 43 12) = _
    rw [r.1.2.2.2.2.2.1]
  · intro m2 e
    show bm (f_X9_push N (up m2 112 5 0)) (fun m3 _ => some (m3, m2 112 5)) = _
    rw [up_setC, e]
theorem s_masks {m : Mem} {T : TT} {p : Nat} {P : Nat → TT} {n : Nat} {t q : TT} (N : Nat) (hN : 1400 ≤ N) (h : Sim m T p P n t q) (x y : Int32) : Res (fun m => f_X8_masks N m x y) (fun m => f_X9_masks N m x y) m := by
  by_cases hx : (0 ≤ x ∧ x ≤ 2) ∧ (0 ≤ y ∧ y ≤ 15)
  · obtain ⟨j, hj, e⟩ := rng (b := 2) (by decide) hx.1.1 hx.1.2
    refine h.chg N hN (upd T (6 + j) y) (T (6 + j)) (fun m1 => f_X3_changeMask 43 m1 x y) (fun m3 => gd (inR (6 + x) 347) (gd (inR (6 + x) 347) (lm (up m3 112 (ix (6 + x)) y) (fun m4 => bm (f_X9_push N m4) (fun m5 _ => some (m5, (m3 112 (ix (6 + x)))))))))  (fun m3 => some (m3, T (6 + j))) ?_ ?_ ?_ ?_ (fun _ _ => rfl) (SS_lo (by omega) (by omega)) (ID_lo h.2.2.1.id (by omega) (by omega) (by omega) (by omega) (by omega))
    · show f_X8_masks N m x y = _
      unfold f_X8_masks
      simp only [c_within, bm_some, if01, if_pos hx.1, if_pos hx.2, bm_id]
      rfl
    · intro m1 r f
      rcases (show j = 0 ∨ j = 1 ∨ j = 2 by omega) with e2 | e2 | e2 <;> subst e2 <;> subst e
      · refine ⟨_, ?_, RS_6 y r, fun k hk => up_ne (by omega)⟩
        show some (up m1 43 13 y, m1 43 13) = _
        rw [r.1.2.2.2.2.2.2.1]
      · refine ⟨_, ?_, RS_7 y r, fun k hk => up_ne (by omega)⟩
        show some (up m1 43 14 y, m1 43 14) = _
        rw [r.1.2.2.2.2.2.2.2.1]
      · refine ⟨_, ?_, RS_8 y r, fun k hk => up_ne (by omega)⟩
        show some (up m1 43 15 y, m1 43 15) = _
        rw [r.1.2.2.2.2.2.2.2.2.1]
    · intro m1 _
      show f_X9_masks N m1 x y = _
      unfold f_X9_masks
      simp only [m_in, bm_some, if01, if_pos hx.1, if_pos hx.2]
      rfl
    · intro m2 e2
      have e1 : (6 : Int32) + nI j = nI (6 + j) := by rw [show (6 : Int32) = nI 6 from rfl, nI_add]
      simp only [e, e1, gd_of (inR_nI (show 6 + j < 347 by omega) (by decide)), ix_nI (show 6 + j < 2 ^ 31 by omega), lm_def, up_setC, e2]
  · refine h.ref 0 (by decide) ?_ (fun m1 r => ?_)
    · show f_X8_masks N m x y = _
      unfold f_X8_masks f_X8_masks_19
      rw [c_within, bm_some, if01, c_within, bm_some, if01, bm_id]
      by_cases h1 : 0 ≤ x ∧ x ≤ 2
      · rw [if_pos h1, if_neg (fun q => hx ⟨h1, q⟩)]; rfl
      · rw [if_neg h1]; rfl
    · show f_X9_masks N m1 x y = _
      unfold f_X9_masks f_X9_masks_19
      rw [m_in, bm_some, if01, m_in, bm_some, if01, bm_id]
      by_cases h1 : 0 ≤ x ∧ x ≤ 2
      · rw [if_pos h1, if_neg (fun q => hx ⟨h1, q⟩)]; rfl
      · rw [if_neg h1]; rfl
