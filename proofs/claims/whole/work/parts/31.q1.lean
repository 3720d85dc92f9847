theorem byte_id {x : Int32} (h0 : 0 ≤ x) (h1 : x ≤ 127) : vp_nar .byte (x.toInt8.toInt32) = x := by
  obtain ⟨j, hj, e⟩ := rng (b := 127) (by decide) h0 h1
  have g : ∀ a, a < 8 → ∀ b, b < 16 → vp_nar .byte ((nI (16 * a + b)).toInt8.toInt32) = nI (16 * a + b) := by decide
  rw [e, show j = 16 * (j / 16) + j % 16 by omega]
  exact g (j / 16) (by omega) (j % 16) (by omega)
theorem RC.txt {m m' : Mem} {T : TT} {p : Nat} {P : Nat → TT} {n n' : Nat} {t t' q : TT} (h : RC m T p P n t q) (f : ∀ k, k ≠ 1 → k ≠ 2 → m' k = m k) (g : m' 1 1 = nI n' ∧ ∀ j, j < n' → m' 2 j = t' j) : RC m' T p P n' t' q := by
  obtain ⟨⟨h1, h2⟩, h3, h4, h5, h6, ⟨h7, h8⟩, h9⟩ := h
  have e : ∀ i, kK m' i = kK m i := fun i => by unfold kK; rw [f 55 (by decide) (by decide)]
  have hn : ∀ n, n < 16 → m' (6 + 2 * n) = m (6 + 2 * n) ∧ m' (7 + 2 * n) = m (7 + 2 * n) := fun n hn => ⟨f _ (by omega) (by omega), f _ (by omega) (by omega)⟩
  refine ⟨⟨by rw [f 54 (by decide) (by decide), h1], h2⟩, ?_, h4.fr (fun c hc => f _ (by omega) (by omega)), h5.fr hn, fun i hi => ?_, g, by rw [f 0 (by decide) (by decide)]; exact h9⟩
  · unfold HP
    simp only [e]
    exact h3
  · have hk := h3.1 i (by omega)
    have := st_rng hk.1 hk.2
    rw [e]
    exact ⟨(h6 i hi).1.fr (fun c hc => f _ (by omega) (by omega)), (h6 i hi).2.fr hn⟩
theorem s_type {m : Mem} {T : TT} {p : Nat} {P : Nat → TT} {n : Nat} {t q : TT} (h : Sim m T p P n t q) (x : Int32) : Res (fun m => f_X8_type m x) (fun m => f_X9_type m x) m := by
  have h7 := h.1.2.2.2.2.2.1
  have hn := h.2.2.2.2.2.2.2.1
  by_cases hx : 0 ≤ x ∧ x ≤ 127
  · by_cases hl : n = 100
    · refine h.ref 2 (by decide) ?_ (fun m1 r => ?_)
      · show f_X8_type m x = _
        unfold f_X8_type
        rw [c_within, bm_some, if01, if_pos hx, h7.1, hl, if_neg (by decide), bm_id]
        rfl
      · show f_X9_type m1 x = _
        unfold f_X9_type
        rw [m_in, bm_some, if01, if_pos hx, r.2.2.2.1, hl, if_pos (by decide), bm_id]
        rfl
    · have hl2 : n < 100 := by omega
      refine h.glue (nI (n + 1)) T p P (n + 1) (upd t n x) q ?_ (fun m1 r => ?_) ⟨h.2.2.1, h.2.2.2.1, h.2.2.2.2.1, h.2.2.2.2.2.1, h.2.2.2.2.2.2.1, by omega, fun j hj => ?_⟩
      · show ∃ m1, f_X8_type m x = _ ∧ _
        unfold f_X8_type f_X4_append
        rw [c_within, bm_some, if01, if_pos hx, h7.1, if_pos (show nI n < (100 : Int32) from nI_lt (b := 100) hl2 (by decide)), if_neg (nI_pos (by omega)), if_neg (show ¬ (100 : Int32) ≤ nI n from nI_ge (b := 100) hl2 (by decide)), gd_of (inR_nI hl2 (by decide)), lm_def, lm_def, bm_some, ix_nI (by omega), byte_id hx.1 hx.2]
        have e1 : up m 2 n x 1 1 = nI n := by rw [up_ne (by decide), h7.1]
        rw [e1, nI_1]
        refine ⟨up (up m 2 n x) 1 1 (nI (n + 1)), ?_, h.1.txt (fun k h1 h2 => by rw [up_ne h1, up_ne h2]) ⟨by simp [up], fun j hj => ?_⟩, fun k hk => by rw [up_ne (by omega), up_ne (by omega)]⟩
        · rw [show up (up m 2 n x) 1 1 (nI (n + 1)) 1 1 = nI (n + 1) by simp [up]]
        · have := h7.2 j
          grind [up, upd]
      · show ∃ m2, f_X9_type m1 x = _ ∧ _
        obtain ⟨r1, r2, r3, r4, r5, r6⟩ := r
        unfold f_X9_type
        rw [m_in, bm_some, if01, if_pos hx, r4, if_neg (show ¬ nI n = (100 : Int32) from fun q => hl ((nI_eq (b := 100) (by omega) (by decide)).mp q)), gd_of (inR_nI hl2 (by decide)), lm_def, lm_def, ix_nI (by omega)]
        have e1 : up m1 116 n x 111 6 = nI n := by rw [up_ne (by decide), r4]
        rw [e1, nI_1]
        refine ⟨up (up m1 116 n x) 111 6 (nI (n + 1)), ?_, ⟨?_, ?_, ?_, ?_, ?_, ?_⟩, fun k hk => by rw [up_ne (by omega), up_ne (by omega)]⟩
        · rw [show up (up m1 116 n x) 111 6 (nI (n + 1)) 111 6 = nI (n + 1) by simp [up]]
        · simp [up, r1]
        · rw [up_ne (by decide), up_ne (by decide), r2]
        · rw [up_ne (by decide), up_ne (by decide)]; exact r3
        · simp [up]
        · intro j hj
          have := r5 j
          grind [up, upd]
        · rw [up_ne (by decide), up_ne (by decide)]; exact r6
      · have := h.2.2.2.2.2.2.2.2 j
        grind [upd]
  · refine h.ref 0 (by decide) ?_ (fun m1 _ => ?_)
    · show f_X8_type m x = _
      unfold f_X8_type
      simp only [c_within, bm_some, if01, if_neg hx, bm_id]
      rfl
    · show f_X9_type m1 x = _
      unfold f_X9_type
      simp only [m_in, bm_some, if01, if_neg hx, bm_id]
      rfl
theorem s_clear {m : Mem} {T : TT} {p : Nat} {P : Nat → TT} {n : Nat} {t q : TT} (h : Sim m T p P n t q) : Res (fun m => f_X8_clear m) (fun m => f_X9_clear m) m := by
  have h7 := h.1.2.2.2.2.2.1
  refine h.glue (nI n) T p P 0 t q ?_ (fun m1 r => ?_) ⟨h.2.2.1, h.2.2.2.1, h.2.2.2.2.1, h.2.2.2.2.2.1, h.2.2.2.2.2.2.1, by omega, fun j hj => by omega⟩
  · show ∃ m1, f_X8_clear m = _ ∧ _
    unfold f_X8_clear
    rw [lm_def, h7.1]
    exact ⟨_, rfl, h.1.txt (fun k h1 h2 => by rw [up_ne h1]) ⟨by simp [up]; rfl, fun j hj => by omega⟩, fun k hk => by rw [up_ne (by omega)]⟩
  · show ∃ m2, f_X9_clear m1 = _ ∧ _
    obtain ⟨r1, r2, r3, r4, r5, r6⟩ := r
    unfold f_X9_clear
    rw [lm_def, r4]
    refine ⟨_, rfl, ⟨?_, ?_, ?_, ?_, ?_, ?_⟩, fun k hk => by rw [up_ne (by omega)]⟩
    · simp [up, r1]
    · rw [up_ne (by decide), r2]
    · rw [up_ne (by decide)]; exact r3
    · simp [up]; rfl
    · intro j hj; omega
    · rw [up_ne (by decide)]; exact r6
def tAt (T : TT) (c o : Nat) (x : Int32) : Int32 := if T c ≤ x then -10001 else T (o + ix x)
theorem c_at {m : Mem} {T : TT} {k c o L : Nat} (hL : L < 9) (e1 : m k 1 = T c) (e2 : ∀ i, i < L → m (k + 1) i = T (o + i)) (e3 : ln (k + 1) = L) (hc : T c ≤ nI L) {x : Int32} (hx : 0 ≤ x) : f_X2_at k m x = some (m, tAt T c o x) := by
  unfold f_X2_at tAt
  rw [if_neg (by grind), e1, e3, lit]
  by_cases h : T c ≤ x
  · rw [if_pos h, if_pos h]
  · rw [if_neg h, if_neg h, if_neg (by grind)]
    obtain ⟨j, hj, e⟩ := rng (b := L) (by omega) hx (by grind)
    have hj2 : j < L := by
      rcases Nat.lt_or_ge j L with h1 | h1
      · exact h1
      · rw [show j = L by omega] at e
        rw [e] at h
        exact absurd hc h
    rw [e, gd_of (inR_nI hj2 (by omega)), ix_nI (by omega), e2 j hj2]
theorem m_rowAt {m : Mem} {T : TT} (h : m 112 = T) {c o L : Nat} (ho : o < 300) (hL : L < 9) (hc2 : c < 347) (hc : T c ≤ nI L) {x : Int32} (hx : 0 ≤ x) : f_X9_rowAt m x (nI c) (nI o) = some (m, tAt T c o x) := by
  unfold f_X9_rowAt tAt
  rw [if_pos hx, gd_of (inR_nI hc2 (by decide)), ix_nI (by omega), h]
  by_cases h : T c ≤ x
  · rw [if_pos h, if_pos h]
  · rw [if_neg h, if_neg h]
    obtain ⟨j, hj, e⟩ := rng (b := L) (by omega) hx (by grind)
    rw [e, nI_add, gd_of (inR_nI (by omega) (by decide)), ix_nI (by omega), ix_nI (by omega)]
theorem s_rows {fc fm : Mem → Option (Mem × Int32)} {m : Mem} {T : TT} {p : Nat} {P : Nat → TT} {n : Nat} {t q : TT} (h : Sim m T p P n t q) {k c o L : Nat} (ho : o < 300) (hL : L < 9) (hc2 : c < 347) (e1 : m k 1 = T c) (e2 : ∀ i, i < L → m (k + 1) i = T (o + i)) (e3 : ln (k + 1) = L) (hc : T c ≤ nI L) (x : Int32) (gc : fc m = if 0 ≤ x then (bm (f_X2_at k m x) (fun m1 r1 => some (m1, r1))) else (bm (f_X8_refuse m (-10002)) (fun m2 r2 => some (m2, r2)))) (gm : ∀ m1, fm m1 = f_X9_rowAt m1 x (nI c) (nI o)) : Res fc fm m := by
  by_cases hx : 0 ≤ x
  · refine h.same (tAt T c o x) ?_ (fun m1 r => ?_)
    · rw [gc, if_pos hx, bm_id]; exact c_at hL e1 e2 e3 hc hx
    · rw [gm]; exact m_rowAt r.2.1 ho hL hc2 hc hx
  · refine h.ref 0 (by decide) ?_ (fun m1 r => ?_)
    · rw [gc, if_neg hx, bm_id]; rfl
    · rw [gm]; unfold f_X9_rowAt; rw [if_neg hx, bm_id]; rfl
theorem s_answers {m : Mem} {T : TT} {p : Nat} {P : Nat → TT} {n : Nat} {t q : TT} (h : Sim m T p P n t q) (x : Int32) : Res (fun m => f_X8_answers m x) (fun m => f_X9_answers m x) m := by
  have r := h.1.2.2.1
  have i := h.2.2.1
  exact s_rows (k := 48) (c := 11) (o := 17) (L := 6) h (by decide) (by decide) (by decide) r.1.2.2.2.2.2.2.2.2.2.2.2.1 r.2.2.1 rfl i.2.2.1.2 x rfl (fun m1 => by show f_X9_answers m1 x = _; unfold f_X9_answers; rw [bm_id]; rfl)
theorem s_faults {m : Mem} {T : TT} {p : Nat} {P : Nat → TT} {n : Nat} {t q : TT} (h : Sim m T p P n t q) (x : Int32) : Res (fun m => f_X8_faults m x) (fun m => f_X9_faults m x) m := by
  have r := h.1.2.2.1
  have i := h.2.2.1
  exact s_rows (k := 50) (c := 12) (o := 23) (L := 4) h (by decide) (by decide) (by decide) r.1.2.2.2.2.2.2.2.2.2.2.2.2 r.2.2.2.1 rfl i.2.2.2.1.2 x rfl (fun m1 => by show f_X9_faults m1 x = _; unfold f_X9_faults; rw [bm_id]; rfl)
theorem s_pending {m : Mem} {T : TT} {p : Nat} {P : Nat → TT} {n : Nat} {t q : TT} (h : Sim m T p P n t q) (x : Int32) : Res (fun m => f_X8_pending m x) (fun m => f_X9_pending m x) m := by
  have r := h.1.2.2.1
  have i := h.2.2.1
  exact s_rows (k := 52) (c := 9) (o := 13) (L := 4) h (by decide) (by decide) (by decide) r.1.2.2.2.2.2.2.2.2.2.1 r.2.1 rfl i.2.1.2 x rfl (fun m1 => by show f_X9_pending m1 x = _; unfold f_X9_pending; rw [bm_id]; rfl)
