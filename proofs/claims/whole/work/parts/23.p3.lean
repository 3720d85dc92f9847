/-! more single steps on a state -/
theorem m_ofNode (m : Mem) {n w : Nat} (h : n < 16) (hw : w < 20) : f_X9_ofNode m (nI n) (nI w) = some (m, m 112 (27 + 20 * n + w)) := by
  unfold f_X9_ofNode
  obtain ⟨e1, e2⟩ := node_ix h hw
  rw [gd_of e2, e1]
theorem m_put (m : Mem) {n w : Nat} (v : Int32) (h : n < 16) (hw : w < 20) : f_X9_put m (nI n) (nI w) v = some (setC m 112 (upd (m 112) (27 + 20 * n + w) v), ()) := by
  unfold f_X9_put
  obtain ⟨e1, e2⟩ := node_ix h hw
  rw [gd_of e2, e1, lm_def, up_setC]
def tSetAll (T : TT) (n : Nat) : TT := upd (upd (upd T (27 + 20 * n + 6) (T (27 + 20 * n + 4))) (27 + 20 * n + 7) (T (27 + 20 * n + 4))) (27 + 20 * n + 8) (T (27 + 20 * n + 4))
theorem m_setAll (N : Nat) (hN : 4 ≤ N) (m : Mem) {n : Nat} (h : n < 16) : f_X9_setAll N m (nI n) = some (setC m 112 (tSetAll (m 112) n), ()) := by
  obtain ⟨N, rfl⟩ : ∃ k, N = k + 4 := ⟨N - 4, by omega⟩
  have s0 : ∀ (R : Mem → Int32 → Int32 → Option (Mem × Unit)) (m : Mem) (w : Nat), w < 3 → f_X9_setAll_2b (N + 4) R m (nI n) (nI w) = R (setC m 112 (upd (m 112) (27 + 20 * n + (6 + w)) (m 112 (27 + 20 * n + 4)))) (nI n) (nI (w + 1)) := by
    intro R m w hw
    unfold f_X9_setAll_2b
    rw [if_neg (show ¬ (3 : Int32) ≤ nI w from nI_ge (b := 3) hw (by decide)), show (4 : Int32) = nI 4 from rfl, m_ofNode m h (by decide), bm_some, show (6 : Int32) = nI 6 from rfl, nI_add, m_put m _ h (by omega), bm_some, nI_1]
  have s3 : ∀ (R : Mem → Int32 → Int32 → Option (Mem × Unit)) (m : Mem), f_X9_setAll_2b (N + 4) R m (nI n) (nI 3) = some (m, ()) := by
    intro R m
    unfold f_X9_setAll_2b
    rw [if_pos (by decide)]
  unfold f_X9_setAll
  show f_X9_setAll_2b (N + 4) (f_X9_setAll_2b (N + 4) (f_X9_setAll_2b (N + 4) (f_X9_setAll_2b (N + 4) (f_X9_setAll_2 (N + 4) N)))) m (nI n) (nI 0) = _
  rw [s0 _ _ 0 (by decide), s0 _ _ 1 (by decide), s0 _ _ 2 (by decide), s3]
  simp only [setC_at, setC_setC, tSetAll]
  congr 3
  funext q
  simp only [upd]
  grind
theorem c_putNumber (m : Mem) (k : Nat) {n s : Nat} (v : Int32) (h : n < 16) (hs : s < 3) : f_X3_putNumber k m (nI n) (nI (s + 1)) v = some (up m (k + 4) (3 * n + s) v, ()) := by
  unfold f_X3_putNumber
  have e : nI n * 3 + nI (s + 1) - 1 = nI (3 * n + s) := by
    rw [show (3 : Int32) = nI 3 from rfl, pk_mul, nI_add, show (1 : Int32) = nI 1 from rfl, pk_sub (by omega)]
    congr 1
    omega
  have h1 : (0 : Int32) ≤ nI (3 * n + s) ∧ nI (3 * n + s) ≤ 48 - 1 := ⟨nI_pos' (by omega), show nI (3 * n + s) ≤ nI 47 from nI_le (by omega) (by decide)⟩
  rw [e, c_within, bm_some, if01, if_pos h1, gd_of (inR_nI (by omega) (by decide)), ix_nI (by omega), lm_def]
theorem c_numberOf (m : Mem) (k : Nat) {n s : Nat} (h : n < 16) (hs : s < 3) : f_X3_numberOf k m (nI n) (nI (s + 1)) = some (m, m (k + 4) (3 * n + s)) := by
  unfold f_X3_numberOf
  have e : nI n * 3 + nI (s + 1) - 1 = nI (3 * n + s) := by
    rw [show (3 : Int32) = nI 3 from rfl, pk_mul, nI_add, show (1 : Int32) = nI 1 from rfl, pk_sub (by omega)]
    congr 1
    omega
  have h1 : (0 : Int32) ≤ nI (3 * n + s) ∧ nI (3 * n + s) ≤ 48 - 1 := ⟨nI_pos' (by omega), show nI (3 * n + s) ≤ nI 47 from nI_le (by omega) (by decide)⟩
  rw [e, c_within, bm_some, if01, if_pos h1, gd_of (inR_nI (by omega) (by decide)), ix_nI (by omega)]
theorem c_lowerN (N : Nat) (hN : 4 ≤ N) (m : Mem) (k : Nat) {n : Nat} (h : n < 16) : f_X3_lowerNumbers N k m (nI n) = some (up (up (up m (k + 4) (3 * n + 0) (m (k + 1) n)) (k + 4) (3 * n + 1) (m (k + 1) n)) (k + 4) (3 * n + 2) (m (k + 1) n), ()) := by
  obtain ⟨N, rfl⟩ : ∃ k, N = k + 4 := ⟨N - 4, by omega⟩
  have s0 : ∀ (R : Mem → Int32 → Int32 → Option (Mem × Unit)) (m : Mem) (w : Nat), w < 3 → f_X3_lowerNumbers_2b (N + 4) k R m (nI n) (nI (w + 1)) = R (up m (k + 4) (3 * n + w) (m (k + 1) n)) (nI n) (nI (w + 2)) := by
    intro R m w hw
    unfold f_X3_lowerNumbers_2b
    rw [if_neg (show ¬ (3 : Int32) < nI (w + 1) from nI_nlt (a := 3) (by omega) (by decide)), gd_of (inR_nI h (by decide)), ix_nI (by omega), c_putNumber m k _ h hw, bm_some, nI_1]
  have s3 : ∀ (R : Mem → Int32 → Int32 → Option (Mem × Unit)) (m : Mem), f_X3_lowerNumbers_2b (N + 4) k R m (nI n) (nI 4) = some (m, ()) := by
    intro R m
    unfold f_X3_lowerNumbers_2b
    rw [if_pos (by decide)]
  unfold f_X3_lowerNumbers
  show f_X3_lowerNumbers_2b (N + 4) k (f_X3_lowerNumbers_2b (N + 4) k (f_X3_lowerNumbers_2b (N + 4) k (f_X3_lowerNumbers_2b (N + 4) k (f_X3_lowerNumbers_2 (N + 4) k N)))) m (nI n) (nI 1) = _
  rw [s0 _ _ 0 (by decide), s0 _ _ 1 (by decide), s0 _ _ 2 (by decide), s3]
  have e1 : ∀ (m : Mem) j v, up m (k + 4) j v (k + 1) n = m (k + 1) n := by intro m j v; rw [up_ne (by omega)]
  simp only [e1]
theorem RSt_setAll {m : Mem} {k : Nat} {T : TT} {n : Nat} (h : RSt m k T) (hn : n < 16) : RSt (up (up (up m (k + 4) (3 * n + 0) (m (k + 1) n)) (k + 4) (3 * n + 1) (m (k + 1) n)) (k + 4) (3 * n + 2) (m (k + 1) n)) k (tSetAll T n) := by
  obtain ⟨⟨a0, a1, a2, a3, a4, a5, a6, a7, a8, a9, a10, a11, a12⟩, b1, b2, b3, b4, b5, b6, b7⟩ := h
  unfold tSetAll
  refine ⟨⟨?_, ?_, ?_, ?_, ?_, ?_, ?_, ?_, ?_, ?_, ?_, ?_, ?_⟩, ?_, ?_, ?_, ?_, ?_, ?_, ?_⟩ <;> grind [up, upd]
