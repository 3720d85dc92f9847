def tFin (T : TT) : TT := if T 9 = 0 ∧ T 10 = 1 then upd (upd T 1 (T 1 ||| 1)) 10 0 else T
theorem tFin9 (T : TT) : tFin T 9 = T 9 := by
  unfold tFin
  split <;> simp [upd]
theorem s_finishes {m : Mem} {T : TT} {p : Nat} {P : Nat → TT} {n : Nat} {t q : TT} (N : Nat) (hN : 1400 ≤ N) (h : Sim m T p P n t q) (x : Int32) : Res (fun m => f_X8_finishes N m x) (fun m => f_X9_finishes N m x) m := by
  have r := h.1.2.2.1
  have i := h.2.2.1
  have r9 : ∀ m, RSt m 43 T → m 52 1 = T 9 := fun m r => r.1.2.2.2.2.2.2.2.2.2.1
  obtain ⟨a, ha, e⟩ := rng (b := 4) (by decide) i.2.1.1 i.2.1.2
  by_cases hx : 0 ≤ x ∧ x ≤ T 9 - 1
  · have ha0 : a ≠ 0 := by
      intro q
      subst q
      have : T 9 = 0 := e
      rw [this] at hx
      grind
    have e1 : nI a - 1 = nI (a - 1) := by rw [show (1 : Int32) = nI 1 from rfl, pk_sub (by omega)]
    obtain ⟨j, hj, ej⟩ := rng (b := a - 1) (by omega) hx.1 (by rw [← e1, ← e]; exact hx.2)
    have g10 : tRem T 9 13 j 10 = T 10 := by
      simp only [tRem, e, ix_nI (show a < 2 ^ 31 by omega)]
      rw [if_neg (by decide), if_neg (by omega)]
    have g1 : tRem T 9 13 j 1 = T 1 := by
      simp only [tRem, e, ix_nI (show a < 2 ^ 31 by omega)]
      rw [if_neg (by decide), if_neg (by omega)]
    have hd : ID (tRem T 9 13 j) := ID_rem (L := 4) i.id e (by omega) ha (by omega)
    refine h.chg N hN (tFin (tRem T 9 13 j)) (tRem T 9 13 j 9) (fun m2 => bm (f_X3_finish N 43 m2 x) (fun m3 _ => some (m3, (m3 52 1)))) (fun m2 => bm (f_X9_removeAt N m2 9 13 x) (fun m3 _ => gd (inR 9 347) (if (m3 112 (ix 9)) = 0 then (gd (inR 10 347) (if (m3 112 (ix 10)) = 1 then (gd (inR 1 347) (gd (inR 1 347) (lm (up m3 112 (ix 1) ((m3 112 (ix 1)) ||| 1)) (fun m4 => gd (inR 10 347) (lm (up m4 112 (ix 10) 0) (fun m5 => (f_X9_finishes_77 N m5))))))) else (f_X9_finishes_77 N m3))) else (f_X9_finishes_77 N m3)))) (fun m3 => gd (inR 9 347) (some (m3, (m3 112 (ix 9))))) ?_ ?_ ?_ ?_ ?_ ?_ ?_
    · show f_X8_finishes N m x = _
      unfold f_X8_finishes
      rw [r9 m r, c_within, bm_some, if01, if_pos hx]
    · intro m1 r1 f
      obtain ⟨m2, d1, d2, d3, d4, d5⟩ := c_removeAt N (by omega) m1 52 a j 4 (by decide) rfl (by rw [r9 m1 r1, e]) ha (by omega)
      have rs := RS_rem52 r1 e ha (by omega) d2 d3 d4
      have s9 : m2 52 1 = tRem T 9 13 j 9 := rs.1.2.2.2.2.2.2.2.2.2.1
      have s16 : m2 43 16 = tRem T 9 13 j 10 := rs.1.2.2.2.2.2.2.2.2.2.2.1
      have s8 : m2 43 8 = tRem T 9 13 j 1 := rs.1.2.1
      unfold f_X3_finish
      rw [show (43 + 9) = 52 from rfl, ej, d1, bm_some, s9]
      unfold tFin
      by_cases h9 : tRem T 9 13 j 9 = 0
      · rw [if_pos h9, s16]
        by_cases h10 : tRem T 9 13 j 10 = 0
        · rw [if_pos h10, bm_some, s9, if_neg (by rw [h10]; exact fun q => absurd q.2 (by decide))]
          exact ⟨m2, rfl, rs, fun k hk => d4 k (by omega) (by omega)⟩
        · have h1 : tRem T 9 13 j 10 = 1 := by
            rcases hd.2.2.2.1 with q | q
            · exact absurd q h10
            · exact q
          rw [if_neg h10, lm_def, lm_def, bm_some, if_pos ⟨h9, h1⟩, s8]
          refine ⟨_, ?_, RS_10 0 (RS_1 _ rs), fun k hk => by rw [up_ne (by omega), up_ne (by omega)]; exact d4 k (by omega) (by omega)⟩
          rw [show ∀ u v, up (up m2 43 8 u) 43 16 v 52 1 = m2 52 1 from fun u v => by rw [up_ne (by decide), up_ne (by decide)], s9]
      · rw [if_neg h9, bm_some, s9, if_neg (fun q => h9 q.1)]
        exact ⟨m2, rfl, rs, fun k hk => d4 k (by omega) (by omega)⟩
    · intro m1 r1
      show f_X9_finishes N m1 x = _
      unfold f_X9_finishes
      rw [gd_of (show inR 9 347 = true from rfl), r1.2.1, show ix 9 = 9 from rfl, m_in, bm_some, if01, if_pos hx]
    · intro m2 e2
      show bm (f_X9_removeAt N m2 (nI 9) (nI 13) x) _ = _
      rw [ej, m_removeAt N (by omega) m2 9 13 a j (by rw [e2, e]) (by omega) (by decide) (by decide) (by omega), bm_some]
      unfold tFin f_X9_finishes_77
      simp only [gd_of (show inR 9 347 = true from rfl), gd_of (show inR 10 347 = true from rfl), gd_of (show inR 1 347 = true from rfl), show ix 9 = 9 from rfl, show ix 10 = 10 from rfl, show ix 1 = 1 from rfl, setC_at, e2, lm_def, up_setC, setC_setC]
      by_cases h9 : tRem T 9 13 j 9 = 0
      · by_cases h10 : tRem T 9 13 j 10 = 1
        · rw [if_pos h9, if_pos h10, if_pos ⟨h9, h10⟩]
        · rw [if_pos h9, if_neg h10, if_neg (fun q => h10 q.2)]
      · rw [if_neg h9, if_neg (fun q => h9 q.1)]
    · intro m3 e3
      show some (m3, m3 112 9) = _
      rw [e3, tFin9]
    · have s := SS_rem (L := 4) e (show j < a by omega) ha (show 9 < 13 by decide) (by decide) (by decide)
      unfold tFin
      split
      · exact (s.tr (SS_lo (by decide) (by decide))).tr (SS_lo (by decide) (by decide))
      · exact s
    · unfold tFin
      split
      · obtain ⟨d1, d2, d3, d4, d5⟩ := hd
        refine ⟨?_, ?_, ?_, ?_, ?_⟩
        · simp only [upd]; exact d1
        · simp only [upd]; exact d2
        · simp only [upd]; exact d3
        · left; simp [upd]
        · intro n hn
          have f : ∀ k, 27 ≤ k → upd (upd (tRem T 9 13 j) 1 (tRem T 9 13 j 1 ||| 1)) 10 0 k = tRem T 9 13 j k := fun k hk => by simp only [upd]; rw [if_neg (by omega), if_neg (by omega)]
          rw [f _ (by omega), f _ (by omega), f _ (by omega), f _ (by omega), f _ (by omega)]
          exact d5 n hn
      · exact hd
  · refine h.ref 0 (by decide) ?_ (fun m1 r1 => ?_)
    · show f_X8_finishes N m x = _
      unfold f_X8_finishes
      rw [r9 m r, c_within, bm_some, if01, if_neg hx, bm_id]
      rfl
    · show f_X9_finishes N m1 x = _
      unfold f_X9_finishes
      rw [gd_of (show inR 9 347 = true from rfl), r1.2.1, show ix 9 = 9 from rfl, m_in, bm_some, if01, if_neg hx, bm_id]
      rfl
def tRange (T : TT) (j : Nat) (a b : Int32) : TT := tSetAll (upd (upd T (27 + 20 * j + 4) a) (27 + 20 * j + 5) b) j
theorem s_range {m : Mem} {T : TT} {p : Nat} {P : Nat → TT} {n : Nat} {t q : TT} (N : Nat) (hN : 1400 ≤ N) (h : Sim m T p P n t q) (x a b : Int32) : Res (fun m => f_X8_range N m x a b) (fun m => f_X9_range N m x a b) m := by
  have hI := h.2.2.1
  by_cases hx : ((0 ≤ x ∧ x < T 0) ∧ T (27 + 20 * ix x + 1) = 1) ∧ (-9999 ≤ a ∧ a ≤ 9999) ∧ (a ≤ b ∧ b ≤ 9999)
  · obtain ⟨j, h1, h2, h3, h4, h5⟩ := node_of hI hx.1.1
    have hv : T (27 + 20 * j + 1) = 1 := by rw [← h3]; exact hx.1.2
    refine h.chg N hN (tRange T j a b) (T (27 + 20 * j + 4)) (fun m4 => gd (inR x 16) (gd (inR x 16) (lm (up m4 44 (ix x) a) (fun m5 => gd (inR x 16) (lm (up m5 45 (ix x) b) (fun m6 => bm (f_X3_lowerNumbers N 43 m6 x) (fun m7 _ => some (m7, (m4 44 (ix x)))))))))) (fun m4 => bm (f_X9_ofNode m4 x 4) (fun m5 r5 => bm (f_X9_put m5 x 4 a) (fun m6 _ => bm (f_X9_put m6 x 5 b) (fun m7 _ => bm (f_X9_setAll N m7 x) (fun m8 _ => bm (f_X9_push N m8) (fun m9 _ => some (m9, r5))))))) (fun m3 => some (m3, T (27 + 20 * j + 4))) ?_ ?_ ?_ ?_ (fun _ _ => rfl) ?_ ?_
    · show f_X8_range N m x a b = _
      unfold f_X8_range
      rw [c_isValue h.1.2.2.1 h.1.2.2.2.1 hI, bm_some, if01, if_pos hx.1, c_within, bm_some, if01, if_pos hx.2.1, c_within, bm_some, if01, if_pos hx.2.2]
    · intro m1 r f
      have e4 : m1 44 j = T (27 + 20 * j + 4) := r.2.2.2.2.1 j h1
      simp only [h2, gd_of (inR_nI h1 (show 16 < 2 ^ 31 by decide)), ix_nI (show j < 2 ^ 31 by omega), lm_def, c_lowerN N (show 4 ≤ N by omega) _ 43 h1, bm_some, e4]
      refine ⟨_, rfl, RSt_setAll (RS_high b h1 (RS_low a h1 r)) h1, fun k hk => ?_⟩
      rw [up_ne (by omega), up_ne (by omega), up_ne (by omega), up_ne (by omega), up_ne (by omega)]
    · intro m1 r
      show f_X9_range N m1 x a b = _
      unfold f_X9_range
      rw [m_isValue r.2.1 hI, bm_some, if01, if_pos hx.1, m_in, bm_some, if01, if_pos hx.2.1, m_in, bm_some, if01, if_pos hx.2.2]
    · intro m2 e2
      simp only [h2, show (4 : Int32) = nI 4 from rfl, show (5 : Int32) = nI 5 from rfl, m_ofNode _ h1 (show 4 < 20 by decide), bm_some, m_put _ _ h1 (show 4 < 20 by decide), m_put _ _ h1 (show 5 < 20 by decide), m_setAll N (show 4 ≤ N by omega) _ h1, setC_at, setC_setC, e2, tRange]
    · unfold tRange tSetAll
      have u : ∀ {T : TT} {w : Nat} {v : Int32}, 4 ≤ w → w < 10 → SS T (upd T (27 + 20 * j + w) v) := fun h1 h2 => SS.upd (by omega) (fun n w' _ _ => by omega)
      exact ((((u (by decide) (by decide)).tr (u (by decide) (by decide))).tr (u (by decide) (by decide))).tr (u (by decide) (by decide))).tr (u (by decide) (by decide))
    · have d := hI.id
      have u : ∀ {T : TT} {w : Nat} {v : Int32}, T (27 + 20 * j + 1) = 1 → 4 ≤ w → w < 10 → ID T → ID (upd T (27 + 20 * j + w) v) ∧ upd T (27 + 20 * j + w) v (27 + 20 * j + 1) = 1 := by
        intro T w v hv g1 g2 d
        obtain ⟨d1, d2, d3, d4, d5⟩ := d
        have f : ∀ k, k ≠ 27 + 20 * j + w → upd T (27 + 20 * j + w) v k = T k := fun k hk => by simp only [upd]; rw [if_neg hk]
        refine ⟨⟨by rw [f _ (by omega)]; exact d1, by rw [f _ (by omega)]; exact d2, by rw [f _ (by omega)]; exact d3, by rw [f _ (by omega)]; exact d4, fun n hn hh => ?_⟩, by rw [f _ (by omega)]; exact hv⟩
        rw [f _ (by omega)] at hh
        have hne : n ≠ j := fun q => hh (by rw [q]; exact hv)
        rw [f _ (by omega), f _ (by omega), f _ (by omega), f _ (by omega)]
        exact d5 n hn hh
      unfold tRange tSetAll
      have u1 := u (v := a) hv (by decide) (show 4 < 10 by decide) d
      have u2 := u (v := b) u1.2 (by decide) (show 5 < 10 by decide) u1.1
      have u3 := u (v := upd (upd T (27 + 20 * j + 4) a) (27 + 20 * j + 5) b (27 + 20 * j + 4)) u2.2 (by decide) (show 6 < 10 by decide) u2.1
      have u4 := u (v := upd (upd T (27 + 20 * j + 4) a) (27 + 20 * j + 5) b (27 + 20 * j + 4)) u3.2 (by decide) (show 7 < 10 by decide) u3.1
      exact (u u4.2 (by decide) (by decide) u4.1).1
  · refine h.ref 0 (by decide) ?_ (fun m1 r => ?_)
    · show f_X8_range N m x a b = _
      unfold f_X8_range f_X8_range_32
      rw [c_isValue h.1.2.2.1 h.1.2.2.2.1 hI, bm_some, if01, c_within, bm_some, if01, c_within, bm_some, if01, bm_id]
      by_cases h1 : (0 ≤ x ∧ x < T 0) ∧ T (27 + 20 * ix x + 1) = 1
      · rw [if_pos h1]
        by_cases h2 : -9999 ≤ a ∧ a ≤ 9999
        · rw [if_pos h2, if_neg (fun q => hx ⟨h1, h2, q⟩)]; rfl
        · rw [if_neg h2]; rfl
      · rw [if_neg h1]; rfl
    · show f_X9_range N m1 x a b = _
      unfold f_X9_range f_X9_range_33
      rw [m_isValue r.2.1 hI, bm_some, if01, m_in, bm_some, if01, m_in, bm_some, if01, bm_id]
      by_cases h1 : (0 ≤ x ∧ x < T 0) ∧ T (27 + 20 * ix x + 1) = 1
      · rw [if_pos h1]
        by_cases h2 : -9999 ≤ a ∧ a ≤ 9999
        · rw [if_pos h2, if_neg (fun q => hx ⟨h1, h2, q⟩)]; rfl
        · rw [if_neg h2]; rfl
      · rw [if_neg h1]; rfl
