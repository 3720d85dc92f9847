theorem RS_0 {m : Mem} {k : Nat} {T : TT} (v : Int32) (h : RSt m k T) : RSt (up m k 0 v) k (upd T 0 v) := by
  obtain ⟨⟨a0, a1, a2, a3, a4, a5, a6, a7, a8, a9, a10, a11, a12⟩, b1, b2, b3, b4, b5, b6, b7⟩ := h
  refine ⟨⟨?_, ?_, ?_, ?_, ?_, ?_, ?_, ?_, ?_, ?_, ?_, ?_, ?_⟩, ?_, ?_, ?_, ?_, ?_, ?_, ?_⟩ <;> grind [up, upd]
theorem RS_1 {m : Mem} {k : Nat} {T : TT} (v : Int32) (h : RSt m k T) : RSt (up m k 8 v) k (upd T 1 v) := by
  obtain ⟨⟨a0, a1, a2, a3, a4, a5, a6, a7, a8, a9, a10, a11, a12⟩, b1, b2, b3, b4, b5, b6, b7⟩ := h
  refine ⟨⟨?_, ?_, ?_, ?_, ?_, ?_, ?_, ?_, ?_, ?_, ?_, ?_, ?_⟩, ?_, ?_, ?_, ?_, ?_, ?_, ?_⟩ <;> grind [up, upd]
theorem RS_2 {m : Mem} {k : Nat} {T : TT} (v : Int32) (h : RSt m k T) : RSt (up m k 9 v) k (upd T 2 v) := by
  obtain ⟨⟨a0, a1, a2, a3, a4, a5, a6, a7, a8, a9, a10, a11, a12⟩, b1, b2, b3, b4, b5, b6, b7⟩ := h
  refine ⟨⟨?_, ?_, ?_, ?_, ?_, ?_, ?_, ?_, ?_, ?_, ?_, ?_, ?_⟩, ?_, ?_, ?_, ?_, ?_, ?_, ?_⟩ <;> grind [up, upd]
theorem RS_3 {m : Mem} {k : Nat} {T : TT} (v : Int32) (h : RSt m k T) : RSt (up m k 10 v) k (upd T 3 v) := by
  obtain ⟨⟨a0, a1, a2, a3, a4, a5, a6, a7, a8, a9, a10, a11, a12⟩, b1, b2, b3, b4, b5, b6, b7⟩ := h
  refine ⟨⟨?_, ?_, ?_, ?_, ?_, ?_, ?_, ?_, ?_, ?_, ?_, ?_, ?_⟩, ?_, ?_, ?_, ?_, ?_, ?_, ?_⟩ <;> grind [up, upd]
theorem RS_4 {m : Mem} {k : Nat} {T : TT} (v : Int32) (h : RSt m k T) : RSt (up m k 11 v) k (upd T 4 v) := by
  obtain ⟨⟨a0, a1, a2, a3, a4, a5, a6, a7, a8, a9, a10, a11, a12⟩, b1, b2, b3, b4, b5, b6, b7⟩ := h
  refine ⟨⟨?_, ?_, ?_, ?_, ?_, ?_, ?_, ?_, ?_, ?_, ?_, ?_, ?_⟩, ?_, ?_, ?_, ?_, ?_, ?_, ?_⟩ <;> grind [up, upd]
theorem RS_5 {m : Mem} {k : Nat} {T : TT} (v : Int32) (h : RSt m k T) : RSt (up m k 12 v) k (upd T 5 v) := by
  obtain ⟨⟨a0, a1, a2, a3, a4, a5, a6, a7, a8, a9, a10, a11, a12⟩, b1, b2, b3, b4, b5, b6, b7⟩ := h
  refine ⟨⟨?_, ?_, ?_, ?_, ?_, ?_, ?_, ?_, ?_, ?_, ?_, ?_, ?_⟩, ?_, ?_, ?_, ?_, ?_, ?_, ?_⟩ <;> grind [up, upd]
theorem RS_6 {m : Mem} {k : Nat} {T : TT} (v : Int32) (h : RSt m k T) : RSt (up m k 13 v) k (upd T 6 v) := by
  obtain ⟨⟨a0, a1, a2, a3, a4, a5, a6, a7, a8, a9, a10, a11, a12⟩, b1, b2, b3, b4, b5, b6, b7⟩ := h
  refine ⟨⟨?_, ?_, ?_, ?_, ?_, ?_, ?_, ?_, ?_, ?_, ?_, ?_, ?_⟩, ?_, ?_, ?_, ?_, ?_, ?_, ?_⟩ <;> grind [up, upd]
theorem RS_7 {m : Mem} {k : Nat} {T : TT} (v : Int32) (h : RSt m k T) : RSt (up m k 14 v) k (upd T 7 v) := by
  obtain ⟨⟨a0, a1, a2, a3, a4, a5, a6, a7, a8, a9, a10, a11, a12⟩, b1, b2, b3, b4, b5, b6, b7⟩ := h
  refine ⟨⟨?_, ?_, ?_, ?_, ?_, ?_, ?_, ?_, ?_, ?_, ?_, ?_, ?_⟩, ?_, ?_, ?_, ?_, ?_, ?_, ?_⟩ <;> grind [up, upd]
theorem RS_8 {m : Mem} {k : Nat} {T : TT} (v : Int32) (h : RSt m k T) : RSt (up m k 15 v) k (upd T 8 v) := by
  obtain ⟨⟨a0, a1, a2, a3, a4, a5, a6, a7, a8, a9, a10, a11, a12⟩, b1, b2, b3, b4, b5, b6, b7⟩ := h
  refine ⟨⟨?_, ?_, ?_, ?_, ?_, ?_, ?_, ?_, ?_, ?_, ?_, ?_, ?_⟩, ?_, ?_, ?_, ?_, ?_, ?_, ?_⟩ <;> grind [up, upd]
theorem RS_9 {m : Mem} {k : Nat} {T : TT} (v : Int32) (h : RSt m k T) : RSt (up m (k + 9) 1 v) k (upd T 9 v) := by
  obtain ⟨⟨a0, a1, a2, a3, a4, a5, a6, a7, a8, a9, a10, a11, a12⟩, b1, b2, b3, b4, b5, b6, b7⟩ := h
  refine ⟨⟨?_, ?_, ?_, ?_, ?_, ?_, ?_, ?_, ?_, ?_, ?_, ?_, ?_⟩, ?_, ?_, ?_, ?_, ?_, ?_, ?_⟩ <;> grind [up, upd]
theorem RS_10 {m : Mem} {k : Nat} {T : TT} (v : Int32) (h : RSt m k T) : RSt (up m k 16 v) k (upd T 10 v) := by
  obtain ⟨⟨a0, a1, a2, a3, a4, a5, a6, a7, a8, a9, a10, a11, a12⟩, b1, b2, b3, b4, b5, b6, b7⟩ := h
  refine ⟨⟨?_, ?_, ?_, ?_, ?_, ?_, ?_, ?_, ?_, ?_, ?_, ?_, ?_⟩, ?_, ?_, ?_, ?_, ?_, ?_, ?_⟩ <;> grind [up, upd]
theorem RS_11 {m : Mem} {k : Nat} {T : TT} (v : Int32) (h : RSt m k T) : RSt (up m (k + 5) 1 v) k (upd T 11 v) := by
  obtain ⟨⟨a0, a1, a2, a3, a4, a5, a6, a7, a8, a9, a10, a11, a12⟩, b1, b2, b3, b4, b5, b6, b7⟩ := h
  refine ⟨⟨?_, ?_, ?_, ?_, ?_, ?_, ?_, ?_, ?_, ?_, ?_, ?_, ?_⟩, ?_, ?_, ?_, ?_, ?_, ?_, ?_⟩ <;> grind [up, upd]
theorem RS_12 {m : Mem} {k : Nat} {T : TT} (v : Int32) (h : RSt m k T) : RSt (up m (k + 7) 1 v) k (upd T 12 v) := by
  obtain ⟨⟨a0, a1, a2, a3, a4, a5, a6, a7, a8, a9, a10, a11, a12⟩, b1, b2, b3, b4, b5, b6, b7⟩ := h
  refine ⟨⟨?_, ?_, ?_, ?_, ?_, ?_, ?_, ?_, ?_, ?_, ?_, ?_, ?_⟩, ?_, ?_, ?_, ?_, ?_, ?_, ?_⟩ <;> grind [up, upd]
theorem RS_pen {m : Mem} {k : Nat} {T : TT} (v : Int32) {i : Nat} (hi : i < 4) (h : RSt m k T) : RSt (up m (k + 10) i v) k (upd T (13 + i) v) := by
  obtain ⟨⟨a0, a1, a2, a3, a4, a5, a6, a7, a8, a9, a10, a11, a12⟩, b1, b2, b3, b4, b5, b6, b7⟩ := h
  refine ⟨⟨?_, ?_, ?_, ?_, ?_, ?_, ?_, ?_, ?_, ?_, ?_, ?_, ?_⟩, ?_, ?_, ?_, ?_, ?_, ?_, ?_⟩ <;> grind [up, upd]
theorem RS_ans {m : Mem} {k : Nat} {T : TT} (v : Int32) {i : Nat} (hi : i < 6) (h : RSt m k T) : RSt (up m (k + 6) i v) k (upd T (17 + i) v) := by
  obtain ⟨⟨a0, a1, a2, a3, a4, a5, a6, a7, a8, a9, a10, a11, a12⟩, b1, b2, b3, b4, b5, b6, b7⟩ := h
  refine ⟨⟨?_, ?_, ?_, ?_, ?_, ?_, ?_, ?_, ?_, ?_, ?_, ?_, ?_⟩, ?_, ?_, ?_, ?_, ?_, ?_, ?_⟩ <;> grind [up, upd]
theorem RS_flt {m : Mem} {k : Nat} {T : TT} (v : Int32) {i : Nat} (hi : i < 4) (h : RSt m k T) : RSt (up m (k + 8) i v) k (upd T (23 + i) v) := by
  obtain ⟨⟨a0, a1, a2, a3, a4, a5, a6, a7, a8, a9, a10, a11, a12⟩, b1, b2, b3, b4, b5, b6, b7⟩ := h
  refine ⟨⟨?_, ?_, ?_, ?_, ?_, ?_, ?_, ?_, ?_, ?_, ?_, ?_, ?_⟩, ?_, ?_, ?_, ?_, ?_, ?_, ?_⟩ <;> grind [up, upd]
theorem RS_low {m : Mem} {k : Nat} {T : TT} (v : Int32) {n : Nat} (hn : n < 16) (h : RSt m k T) : RSt (up m (k + 1) n v) k (upd T (27 + 20 * n + 4) v) := by
  obtain ⟨⟨a0, a1, a2, a3, a4, a5, a6, a7, a8, a9, a10, a11, a12⟩, b1, b2, b3, b4, b5, b6, b7⟩ := h
  refine ⟨⟨?_, ?_, ?_, ?_, ?_, ?_, ?_, ?_, ?_, ?_, ?_, ?_, ?_⟩, ?_, ?_, ?_, ?_, ?_, ?_, ?_⟩ <;> grind [up, upd]
theorem RS_high {m : Mem} {k : Nat} {T : TT} (v : Int32) {n : Nat} (hn : n < 16) (h : RSt m k T) : RSt (up m (k + 2) n v) k (upd T (27 + 20 * n + 5) v) := by
  obtain ⟨⟨a0, a1, a2, a3, a4, a5, a6, a7, a8, a9, a10, a11, a12⟩, b1, b2, b3, b4, b5, b6, b7⟩ := h
  refine ⟨⟨?_, ?_, ?_, ?_, ?_, ?_, ?_, ?_, ?_, ?_, ?_, ?_, ?_⟩, ?_, ?_, ?_, ?_, ?_, ?_, ?_⟩ <;> grind [up, upd]
theorem RS_times {m : Mem} {k : Nat} {T : TT} (v : Int32) {n : Nat} (hn : n < 16) (h : RSt m k T) : RSt (up m (k + 3) n v) k (upd T (27 + 20 * n + 9) v) := by
  obtain ⟨⟨a0, a1, a2, a3, a4, a5, a6, a7, a8, a9, a10, a11, a12⟩, b1, b2, b3, b4, b5, b6, b7⟩ := h
  refine ⟨⟨?_, ?_, ?_, ?_, ?_, ?_, ?_, ?_, ?_, ?_, ?_, ?_, ?_⟩, ?_, ?_, ?_, ?_, ?_, ?_, ?_⟩ <;> grind [up, upd]
theorem RS_num {m : Mem} {k : Nat} {T : TT} (v : Int32) {n s : Nat} (hn : n < 16) (hs : s < 3) (h : RSt m k T) : RSt (up m (k + 4) (3 * n + s) v) k (upd T (27 + 20 * n + 6 + s) v) := by
  obtain ⟨⟨a0, a1, a2, a3, a4, a5, a6, a7, a8, a9, a10, a11, a12⟩, b1, b2, b3, b4, b5, b6, b7⟩ := h
  refine ⟨⟨?_, ?_, ?_, ?_, ?_, ?_, ?_, ?_, ?_, ?_, ?_, ?_, ?_⟩, ?_, ?_, ?_, ?_, ?_, ?_, ?_⟩ <;> grind [up, upd]
theorem RSt.fr {m m' : Mem} {k : Nat} {T : TT} (h : RSt m k T) (e : ∀ c, c < 11 → m' (k + c) = m (k + c)) : RSt m' k T := by
  have e0 := e 0 (by decide)
  have e1 := e 1 (by decide)
  have e2 := e 2 (by decide)
  have e3 := e 3 (by decide)
  have e4 := e 4 (by decide)
  have e5 := e 5 (by decide)
  have e6 := e 6 (by decide)
  have e7 := e 7 (by decide)
  have e8 := e 8 (by decide)
  have e9 := e 9 (by decide)
  have e10 := e 10 (by decide)
  simp only [Nat.add_zero] at e0
  unfold RSt at h ⊢
  rw [e0, e1, e2, e3, e4, e5, e6, e7, e8, e9, e10]
  exact h
/-- what of a state the nodes of the tree tell: it stays -/
def SS (T T' : TT) : Prop := T' 0 = T 0 ∧ ∀ n w, n < 16 → (w < 4 ∨ (10 ≤ w ∧ w < 20)) → T' (27 + 20 * n + w) = T (27 + 20 * n + w)
theorem SS.rf {T : TT} : SS T T := ⟨rfl, fun _ _ _ _ => rfl⟩
theorem SS.tr {A B C : TT} (h : SS A B) (g : SS B C) : SS A C := ⟨g.1.trans h.1, fun n w a b => (g.2 n w a b).trans (h.2 n w a b)⟩
theorem SS.upd {T : TT} {j : Nat} {v : Int32} (h0 : j ≠ 0) (h : ∀ n w, n < 16 → (w < 4 ∨ (10 ≤ w ∧ w < 20)) → 27 + 20 * n + w ≠ j) : SS T (upd T j v) := by
  refine ⟨?_, fun n w a b => ?_⟩
  · simp [Jvm.Pilot.@@N@@.upd, Ne.symm h0]
  · have := h n w a b
    simp [Jvm.Pilot.@@N@@.upd, this]
theorem RNd.of {m : Mem} {T T' : TT} (h : RNd m T) (s : SS T T') : RNd m T' := by
  intro n hn h16
  rw [s.1] at hn
  have := h n hn h16
  have e0 := s.2 n 0 h16 (by omega)
  have e1 := s.2 n 1 h16 (by omega)
  have e2 := s.2 n 2 h16 (by omega)
  have e3 := s.2 n 3 h16 (by omega)
  have e10 := s.2 n 10 h16 (by omega)
  have e11 := s.2 n 11 h16 (by omega)
  rw [e0, e1, e2, e3, e10, e11]
  refine ⟨this.1, this.2.1, this.2.2.1, this.2.2.2.1, this.2.2.2.2.1, this.2.2.2.2.2.1, fun i hi hl => ?_⟩
  rw [show 27 + 20 * n + 12 + i = 27 + 20 * n + (12 + i) by omega, s.2 n (12 + i) h16 (by omega), show 27 + 20 * n + (12 + i) = 27 + 20 * n + 12 + i by omega]
  exact this.2.2.2.2.2.2 i hi hl
theorem RNd.fr {m m' : Mem} {T : TT} (h : RNd m T) (e : ∀ n, n < 16 → m' (6 + 2 * n) = m (6 + 2 * n) ∧ m' (7 + 2 * n) = m (7 + 2 * n)) : RNd m' T := by
  intro n hn h16
  rw [(e n h16).1, (e n h16).2]
  exact h n hn h16
/-- the part of IT that moves -/
def ID (T : TT) : Prop := (0 ≤ T 9 ∧ T 9 ≤ 4) ∧ (0 ≤ T 11 ∧ T 11 ≤ 6) ∧ (0 ≤ T 12 ∧ T 12 ≤ 4) ∧ (T 10 = 0 ∨ T 10 = 1) ∧ (∀ n, n < 16 → T (27 + 20 * n + 1) ≠ 1 → T (27 + 20 * n + 4) = 0 ∧ T (27 + 20 * n + 6) = 0 ∧ T (27 + 20 * n + 7) = 0 ∧ T (27 + 20 * n + 8) = 0)
theorem IT.id {T : TT} (h : IT T) : ID T := ⟨h.2.1, h.2.2.1, h.2.2.2.1, h.2.2.2.2.1, h.2.2.2.2.2.2.1⟩
theorem IT.of {T T' : TT} (h : IT T) (s : SS T T') (d : ID T') : IT T' := by
  obtain ⟨h0, -, -, -, -, h6, -, h8⟩ := h
  obtain ⟨d1, d2, d3, d4, d5⟩ := d
  refine ⟨by rw [s.1]; exact h0, d1, d2, d3, d4, ?_, d5, fun n h1 h16 hn => ?_⟩
  · have e0 := s.2 0 0 (by decide) (by omega)
    have e1 := s.2 0 1 (by decide) (by omega)
    have e2 := s.2 0 2 (by decide) (by omega)
    have e3 := s.2 0 3 (by decide) (by omega)
    have e4 := s.2 0 10 (by decide) (by omega)
    have e5 := s.2 0 11 (by decide) (by omega)
    simp only [Nat.mul_zero, Nat.add_zero, Nat.reduceAdd] at e0 e1 e2 e3 e4 e5
    rw [e0, e1, e2, e3, e4, e5]
    exact h6
  · rw [s.1] at hn
    have := h8 n h1 h16 hn
    have e0 := s.2 n 0 h16 (by omega)
    have e1 := s.2 n 1 h16 (by omega)
    have e2 := s.2 n 2 h16 (by omega)
    have e3 := s.2 n 3 h16 (by omega)
    have e10 := s.2 n 10 h16 (by omega)
    have e11 := s.2 n 11 h16 (by omega)
    simp only [Nat.add_zero] at e0
    rw [e0, e1, e2, e3, e10, e11]
    refine ⟨this.1, this.2.1, this.2.2.1, this.2.2.2.1, this.2.2.2.2.1, fun i hi hl => ?_⟩
    rw [show 27 + 20 * n + 12 + i = 27 + 20 * n + (12 + i) by omega, s.2 n (12 + i) h16 (by omega), show 27 + 20 * n + (12 + i) = 27 + 20 * n + 12 + i by omega]
    exact this.2.2.2.2.2 i hi hl
theorem SS_fault {T : TT} {c : Int32} (h : 0 ≤ T 12 ∧ T 12 ≤ 4) : SS T (tFault T c) := by
  obtain ⟨j, hj, e⟩ := rng (b := 4) (by decide) h.1 h.2
  have ej : ix (nI j) = j := ix_nI (by omega)
  unfold tFault
  by_cases h4 : j = 4
  · subst h4
    rw [if_pos (show T 12 = 4 from e)]
    refine ⟨?_, fun n w a b => ?_⟩ <;> grind [upd]
  · rw [if_neg (show ¬ T 12 = 4 by rw [e]; intro q; exact h4 ((nI_eq (by omega) (by decide)).mp q)), e, ej]
    refine ⟨?_, fun n w a b => ?_⟩ <;> grind [upd]
theorem ID_fault {T : TT} {c : Int32} (d : ID T) : ID (tFault T c) := by
  obtain ⟨d1, d2, d3, d4, d5⟩ := d
  obtain ⟨j, hj, e⟩ := rng (b := 4) (by decide) d3.1 d3.2
  have ej : ix (nI j) = j := ix_nI (by omega)
  unfold tFault
  by_cases h4 : T 12 = 4
  · rw [if_pos h4]
    refine ⟨?_, ?_, ?_, ?_, ?_⟩ <;> grind [upd]
  · rw [if_neg h4, e, ej]
    rw [e] at h4 d3
    refine ⟨?_, ?_, ?_, ?_, ?_⟩ <;> grind [upd]
theorem SS_answer {T : TT} {v : Int32} (h : 0 ≤ T 12 ∧ T 12 ≤ 4) (h2 : 0 ≤ T 11 ∧ T 11 ≤ 6) : SS T (tAnswer T v) := by
  obtain ⟨j, hj, e⟩ := rng (b := 6) (by decide) h2.1 h2.2
  have ej : ix (nI j) = j := ix_nI (by omega)
  unfold tAnswer
  by_cases h4 : T 11 = 6
  · rw [if_pos h4]; exact SS_fault h
  · have h5 : j ≠ 6 := fun q => h4 (by rw [e, q]; rfl)
    rw [if_neg h4, e, ej]
    refine ⟨?_, fun n w a b => ?_⟩ <;> grind [upd]
theorem ID_answer {T : TT} {v : Int32} (d : ID T) : ID (tAnswer T v) := by
  have d0 := d
  obtain ⟨d1, d2, d3, d4, d5⟩ := d
  obtain ⟨j, hj, e⟩ := rng (b := 6) (by decide) d2.1 d2.2
  have ej : ix (nI j) = j := ix_nI (by omega)
  unfold tAnswer
  by_cases h4 : T 11 = 6
  · rw [if_pos h4]; exact ID_fault d0
  · rw [if_neg h4, e, ej]
    rw [e] at h4 d2
    refine ⟨?_, ?_, ?_, ?_, ?_⟩ <;> grind [upd]
