theorem RS_rem48 {m m' : Mem} {T : TT} {a i : Nat} (h : RSt m 43 T) (ha : T 11 = nI a) (haL : a ≤ 6) (hi : i < a) (h1 : m' 48 1 = nI (a - 1)) (h2 : ∀ j, m' 49 j = if i ≤ j ∧ j + 1 < a then m 49 (j + 1) else m 49 j) (h3 : ∀ c, c ≠ 48 → c ≠ 48 + 1 → m' c = m c) : RSt m' 43 (tRem T 11 17 i) := by
  have e : ix (nI a) = a := ix_nI (by omega)
  have e1 : nI a - 1 = nI (a - 1) := by rw [show (1 : Int32) = nI 1 from rfl, pk_sub (by omega)]
  obtain ⟨⟨a0, a1, a2, a3, a4, a5, a6, a7, a8, a9, a10, a11, a12⟩, b1, b2, b3, b4, b5, b6, b7⟩ := h
  have g : ∀ j, j ≠ 11 → ¬ (17 ≤ j ∧ j < 23) → tRem T 11 17 i j = T j := fun j h1 h2 => by simp only [tRem, ha, e]; rw [if_neg h1, if_neg (by omega)]
  have gc : tRem T 11 17 i 11 = nI (a - 1) := by simp only [tRem, if_true]; rw [ha, e1]
  have go : ∀ j, j < 6 → m' 49 j = tRem T 11 17 i (17 + j) := fun j hj => by
    simp only [tRem, ha, e]
    rw [h2, if_neg (show ¬ 17 + j = 11 by omega)]
    by_cases hh : i ≤ j ∧ j + 1 < a
    · rw [if_pos hh, if_pos (by omega)]; first | exact b1 (j + 1) (by omega) | exact b2 (j + 1) (by omega) | exact b3 (j + 1) (by omega)
    · rw [if_neg hh, if_neg (by omega)]; first | exact b1 j (by omega) | exact b2 j (by omega) | exact b3 j (by omega)
  simp only [Nat.reduceAdd] at *
  have f0 := h3 43 (by decide) (by decide)
  have f1 := h3 44 (by decide) (by decide)
  have f2 := h3 45 (by decide) (by decide)
  have f3 := h3 46 (by decide) (by decide)
  have f4 := h3 47 (by decide) (by decide)
  have f7 := h3 50 (by decide) (by decide)
  have f8 := h3 51 (by decide) (by decide)
  have f9 := h3 52 (by decide) (by decide)
  have f10 := h3 53 (by decide) (by decide)
  unfold RSt
  simp only [Nat.reduceAdd, f0, f1, f2, f3, f4, f7, f8, f9, f10]
  exact ⟨⟨by rw [g 0 (by decide) (by decide)]; exact a0, by rw [g 1 (by decide) (by decide)]; exact a1, by rw [g 2 (by decide) (by decide)]; exact a2, by rw [g 3 (by decide) (by decide)]; exact a3, by rw [g 4 (by decide) (by decide)]; exact a4, by rw [g 5 (by decide) (by decide)]; exact a5, by rw [g 6 (by decide) (by decide)]; exact a6, by rw [g 7 (by decide) (by decide)]; exact a7, by rw [g 8 (by decide) (by decide)]; exact a8, by rw [g 9 (by decide) (by decide)]; exact a9, by rw [g 10 (by decide) (by decide)]; exact a10, by rw [gc]; exact h1, by rw [g 12 (by decide) (by decide)]; exact a12⟩, fun j hj => by rw [g _ (by omega) (by omega)]; exact b1 j hj, go, fun j hj => by rw [g _ (by omega) (by omega)]; exact b3 j hj, fun j hj => by rw [g _ (by omega) (by omega)]; exact b4 j hj, fun j hj => by rw [g _ (by omega) (by omega)]; exact b5 j hj, fun j hj => by rw [g _ (by omega) (by omega)]; exact b6 j hj, fun j s hj hs => by rw [g _ (by omega) (by omega)]; exact b7 j s hj hs⟩
theorem RS_rem50 {m m' : Mem} {T : TT} {a i : Nat} (h : RSt m 43 T) (ha : T 12 = nI a) (haL : a ≤ 4) (hi : i < a) (h1 : m' 50 1 = nI (a - 1)) (h2 : ∀ j, m' 51 j = if i ≤ j ∧ j + 1 < a then m 51 (j + 1) else m 51 j) (h3 : ∀ c, c ≠ 50 → c ≠ 50 + 1 → m' c = m c) : RSt m' 43 (tRem T 12 23 i) := by
  have e : ix (nI a) = a := ix_nI (by omega)
  have e1 : nI a - 1 = nI (a - 1) := by rw [show (1 : Int32) = nI 1 from rfl, pk_sub (by omega)]
  obtain ⟨⟨a0, a1, a2, a3, a4, a5, a6, a7, a8, a9, a10, a11, a12⟩, b1, b2, b3, b4, b5, b6, b7⟩ := h
  have g : ∀ j, j ≠ 12 → ¬ (23 ≤ j ∧ j < 27) → tRem T 12 23 i j = T j := fun j h1 h2 => by simp only [tRem, ha, e]; rw [if_neg h1, if_neg (by omega)]
  have gc : tRem T 12 23 i 12 = nI (a - 1) := by simp only [tRem, if_true]; rw [ha, e1]
  have go : ∀ j, j < 4 → m' 51 j = tRem T 12 23 i (23 + j) := fun j hj => by
    simp only [tRem, ha, e]
    rw [h2, if_neg (show ¬ 23 + j = 12 by omega)]
    by_cases hh : i ≤ j ∧ j + 1 < a
    · rw [if_pos hh, if_pos (by omega)]; first | exact b1 (j + 1) (by omega) | exact b2 (j + 1) (by omega) | exact b3 (j + 1) (by omega)
    · rw [if_neg hh, if_neg (by omega)]; first | exact b1 j (by omega) | exact b2 j (by omega) | exact b3 j (by omega)
  simp only [Nat.reduceAdd] at *
  have f0 := h3 43 (by decide) (by decide)
  have f1 := h3 44 (by decide) (by decide)
  have f2 := h3 45 (by decide) (by decide)
  have f3 := h3 46 (by decide) (by decide)
  have f4 := h3 47 (by decide) (by decide)
  have f5 := h3 48 (by decide) (by decide)
  have f6 := h3 49 (by decide) (by decide)
  have f9 := h3 52 (by decide) (by decide)
  have f10 := h3 53 (by decide) (by decide)
  unfold RSt
  simp only [Nat.reduceAdd, f0, f1, f2, f3, f4, f5, f6, f9, f10]
  exact ⟨⟨by rw [g 0 (by decide) (by decide)]; exact a0, by rw [g 1 (by decide) (by decide)]; exact a1, by rw [g 2 (by decide) (by decide)]; exact a2, by rw [g 3 (by decide) (by decide)]; exact a3, by rw [g 4 (by decide) (by decide)]; exact a4, by rw [g 5 (by decide) (by decide)]; exact a5, by rw [g 6 (by decide) (by decide)]; exact a6, by rw [g 7 (by decide) (by decide)]; exact a7, by rw [g 8 (by decide) (by decide)]; exact a8, by rw [g 9 (by decide) (by decide)]; exact a9, by rw [g 10 (by decide) (by decide)]; exact a10, by rw [g 11 (by decide) (by decide)]; exact a11, by rw [gc]; exact h1⟩, fun j hj => by rw [g _ (by omega) (by omega)]; exact b1 j hj, fun j hj => by rw [g _ (by omega) (by omega)]; exact b2 j hj, go, fun j hj => by rw [g _ (by omega) (by omega)]; exact b4 j hj, fun j hj => by rw [g _ (by omega) (by omega)]; exact b5 j hj, fun j hj => by rw [g _ (by omega) (by omega)]; exact b6 j hj, fun j s hj hs => by rw [g _ (by omega) (by omega)]; exact b7 j s hj hs⟩
theorem RS_rem52 {m m' : Mem} {T : TT} {a i : Nat} (h : RSt m 43 T) (ha : T 9 = nI a) (haL : a ≤ 4) (hi : i < a) (h1 : m' 52 1 = nI (a - 1)) (h2 : ∀ j, m' 53 j = if i ≤ j ∧ j + 1 < a then m 53 (j + 1) else m 53 j) (h3 : ∀ c, c ≠ 52 → c ≠ 52 + 1 → m' c = m c) : RSt m' 43 (tRem T 9 13 i) := by
  have e : ix (nI a) = a := ix_nI (by omega)
  have e1 : nI a - 1 = nI (a - 1) := by rw [show (1 : Int32) = nI 1 from rfl, pk_sub (by omega)]
  obtain ⟨⟨a0, a1, a2, a3, a4, a5, a6, a7, a8, a9, a10, a11, a12⟩, b1, b2, b3, b4, b5, b6, b7⟩ := h
  have g : ∀ j, j ≠ 9 → ¬ (13 ≤ j ∧ j < 17) → tRem T 9 13 i j = T j := fun j h1 h2 => by simp only [tRem, ha, e]; rw [if_neg h1, if_neg (by omega)]
  have gc : tRem T 9 13 i 9 = nI (a - 1) := by simp only [tRem, if_true]; rw [ha, e1]
  have go : ∀ j, j < 4 → m' 53 j = tRem T 9 13 i (13 + j) := fun j hj => by
    simp only [tRem, ha, e]
    rw [h2, if_neg (show ¬ 13 + j = 9 by omega)]
    by_cases hh : i ≤ j ∧ j + 1 < a
    · rw [if_pos hh, if_pos (by omega)]; first | exact b1 (j + 1) (by omega) | exact b2 (j + 1) (by omega) | exact b3 (j + 1) (by omega)
    · rw [if_neg hh, if_neg (by omega)]; first | exact b1 j (by omega) | exact b2 j (by omega) | exact b3 j (by omega)
  simp only [Nat.reduceAdd] at *
  have f0 := h3 43 (by decide) (by decide)
  have f1 := h3 44 (by decide) (by decide)
  have f2 := h3 45 (by decide) (by decide)
  have f3 := h3 46 (by decide) (by decide)
  have f4 := h3 47 (by decide) (by decide)
  have f5 := h3 48 (by decide) (by decide)
  have f6 := h3 49 (by decide) (by decide)
  have f7 := h3 50 (by decide) (by decide)
  have f8 := h3 51 (by decide) (by decide)
  unfold RSt
  simp only [Nat.reduceAdd, f0, f1, f2, f3, f4, f5, f6, f7, f8]
  exact ⟨⟨by rw [g 0 (by decide) (by decide)]; exact a0, by rw [g 1 (by decide) (by decide)]; exact a1, by rw [g 2 (by decide) (by decide)]; exact a2, by rw [g 3 (by decide) (by decide)]; exact a3, by rw [g 4 (by decide) (by decide)]; exact a4, by rw [g 5 (by decide) (by decide)]; exact a5, by rw [g 6 (by decide) (by decide)]; exact a6, by rw [g 7 (by decide) (by decide)]; exact a7, by rw [g 8 (by decide) (by decide)]; exact a8, by rw [gc]; exact h1, by rw [g 10 (by decide) (by decide)]; exact a10, by rw [g 11 (by decide) (by decide)]; exact a11, by rw [g 12 (by decide) (by decide)]; exact a12⟩, go, fun j hj => by rw [g _ (by omega) (by omega)]; exact b2 j hj, fun j hj => by rw [g _ (by omega) (by omega)]; exact b3 j hj, fun j hj => by rw [g _ (by omega) (by omega)]; exact b4 j hj, fun j hj => by rw [g _ (by omega) (by omega)]; exact b5 j hj, fun j hj => by rw [g _ (by omega) (by omega)]; exact b6 j hj, fun j s hj hs => by rw [g _ (by omega) (by omega)]; exact b7 j s hj hs⟩
theorem s_take {fc fm : Mem → Option (Mem × Int32)} {m : Mem} {T : TT} {p : Nat} {P : Nat → TT} {n : Nat} {t q : TT} (N : Nat) (hN : 1400 ≤ N) (h : Sim m T p P n t q) (k c o L : Nat) (hh : (k = 48 ∧ c = 11 ∧ o = 17 ∧ L = 6) ∨ (k = 50 ∧ c = 12 ∧ o = 23 ∧ L = 4)) (hc : fc m = if (m k 1) = 0 then (bm (f_X8_refuse m (-10003)) (fun m3 r3 => some (m3, r3))) else (bm (f_X0_keep N 43 m) (fun m1 _ => bm (f_X2_removeAt N k m1 0) (fun m2 r2 => some (m2, r2))))) (hm : ∀ m1, fm m1 = f_X9_takeFirst N m1 (nI c) (nI o)) : Res fc fm m := by
  have r := h.1.2.2.1
  have i := h.2.2.1
  have hb : (0 ≤ T c ∧ T c ≤ nI L) ∧ (∀ m, RSt m 43 T → m k 1 = T c ∧ m (k + 1) 0 = T o) ∧ L < 9 ∧ ln (k + 1) = L ∧ c < o ∧ 0 < c ∧ o + L ≤ 27 := by
    rcases hh with ⟨rfl, rfl, rfl, rfl⟩ | ⟨rfl, rfl, rfl, rfl⟩
    · exact ⟨i.2.2.1, fun m r => ⟨r.1.2.2.2.2.2.2.2.2.2.2.2.1, r.2.2.1 0 (by decide)⟩, by decide, rfl, by decide, by decide, by decide⟩
    · exact ⟨i.2.2.2.1, fun m r => ⟨r.1.2.2.2.2.2.2.2.2.2.2.2.2, r.2.2.2.1 0 (by decide)⟩, by decide, rfl, by decide, by decide, by decide⟩
  obtain ⟨hb1, hb2, hb3, hb4, hb5, hb6, hb7⟩ := hb
  obtain ⟨a, ha, e⟩ := rng (b := L) (by omega) hb1.1 hb1.2
  by_cases h0 : a = 0
  · subst h0
    refine h.ref 1 (by decide) ?_ (fun m1 r1 => ?_)
    · rw [hc, (hb2 m r).1, if_pos (show T c = 0 from e), bm_id]; rfl
    · rw [hm]
      unfold f_X9_takeFirst
      rw [gd_of (inR_nI (by omega) (by decide)), ix_nI (by omega), r1.2.1, if_pos (show T c = 0 from e), bm_id]; rfl
  · have hne : ¬ T c = 0 := by rw [e]; exact fun q => h0 ((nI_eq (b := 0) (by omega) (by decide)).mp q)
    refine h.chg N hN (tRem T c o 0) (T o) (fun m1 => f_X2_removeAt N k m1 0) (fun m1 => bm (f_X9_removeAt N m1 (nI c) (nI o) 0) (fun m2 _ => bm (f_X9_push N m2) (fun m3 _ => some (m3, (m1 112 o))))) (fun m3 => some (m3, T o)) ?_ ?_ ?_ ?_ (fun _ _ => rfl) ?_ ?_
    · rw [hc, (hb2 m r).1, if_neg hne]
      simp only [bm_id]
    · intro m1 r1 f
      obtain ⟨m2, d1, d2, d3, d4, d5⟩ := c_removeAt N (by omega) m1 k a 0 L hb3 hb4 (by rw [(hb2 m1 r1).1, e]) ha (by omega)
      rw [(hb2 m1 r1).2] at d1
      refine ⟨m2, d1, ?_, fun kk hk => d4 kk (by omega) (by omega)⟩
      rcases hh with ⟨rfl, rfl, rfl, rfl⟩ | ⟨rfl, rfl, rfl, rfl⟩
      · exact RS_rem48 r1 e ha (by omega) d2 d3 d4
      · exact RS_rem50 r1 e ha (by omega) d2 d3 d4
    · intro m1 r1
      rw [hm]
      unfold f_X9_takeFirst
      rw [gd_of (inR_nI (by omega) (by decide)), ix_nI (by omega), r1.2.1, if_neg hne]
      simp only [gd_of (inR_nI (show o < 347 by omega) (by decide)), ix_nI (show o < 2 ^ 31 by omega)]
    · intro m2 e2
      show bm (f_X9_removeAt N m2 (nI c) (nI o) (nI 0)) _ = _
      rw [m_removeAt N (by omega) m2 c o a 0 (by rw [e2, e]) (by omega) hb5 (by omega) (by omega), bm_some, e2]
    · exact SS_rem e (by omega) ha hb5 hb6 hb7
    · exact ID_rem i.id e (by omega) ha (by omega)
theorem s_answer {m : Mem} {T : TT} {p : Nat} {P : Nat → TT} {n : Nat} {t q : TT} (N : Nat) (hN : 1400 ≤ N) (h : Sim m T p P n t q) : Res (fun m => f_X8_answer N m) (fun m => f_X9_answer N m) m :=
  s_take N hN h 48 11 17 6 (by omega) rfl (fun m1 => by show f_X9_answer N m1 = _; unfold f_X9_answer; rw [bm_id]; rfl)
theorem s_fault {m : Mem} {T : TT} {p : Nat} {P : Nat → TT} {n : Nat} {t q : TT} (N : Nat) (hN : 1400 ≤ N) (h : Sim m T p P n t q) : Res (fun m => f_X8_fault N m) (fun m => f_X9_fault N m) m :=
  s_take N hN h 50 12 23 4 (by omega) rfl (fun m1 => by show f_X9_fault N m1 = _; unfold f_X9_fault; rw [bm_id]; rfl)
