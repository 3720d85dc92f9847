/-! the digest -/
def itG (g : Nat → Int64 → Int64) : Nat → Nat → Int64 → Int64
  | _, 0, h => h
  | i, d + 1, h => itG g (i + 1) d (g i h)
theorem loopG {α : Type} (e : Nat → Int32) (F : Nat → Int64 → Int32 → Option α) (g : Nat → Int64 → Int64) (B : Nat) (fin : Int64 → Option α) (hs : ∀ f h i, i < B → F (f + 1) h (e i) = F f (g i h) (e (i + 1))) (he : ∀ f h, F (f + 1) h (e B) = fin h) : ∀ d i f h, i + d = B → d < f → F f h (e i) = fin (itG g i d h) := by
  intro d
  induction d with
  | zero =>
    intro i f h h1 h2
    obtain ⟨f, rfl⟩ : ∃ k, f = k + 1 := ⟨f - 1, by omega⟩
    rw [show i = B by omega, he]
    rfl
  | succ d ih =>
    intro i f h h1 h2
    obtain ⟨f, rfl⟩ : ∃ k, f = k + 1 := ⟨f - 1, by omega⟩
    rw [hs f h i (by omega)]
    exact ih (i + 1) f _ (by omega) (by omega)
def mx (v : Nat → Int32) : Nat → Int64 → Int64 := fun i h => 31 * h + (v i).toInt64
def setH (m : Mem) (h : Int64) : Mem := up (up m 111 23 (lo32 h)) 111 24 (hi32 h)
theorem setH_j (m : Mem) (h : Int64) : j64 (setH m h 111 23) (setH m h 111 24) = h := by
  have e1 : setH m h 111 23 = lo32 h := by simp [setH, up]
  have e2 : setH m h 111 24 = hi32 h := by simp [setH, up]
  rw [e1, e2, j64_split]
theorem setH_ne {m : Mem} {h : Int64} {k : Nat} (hk : k ≠ 111) : setH m h k = m k := by
  unfold setH
  rw [up_ne hk, up_ne hk]
theorem setH_o {m : Mem} {h : Int64} {j : Nat} (h1 : j ≠ 23) (h2 : j ≠ 24) : setH m h 111 j = m 111 j := by
  unfold setH
  simp [up, h1, h2]
theorem setH_setH {m : Mem} {a b : Int64} : setH (setH m a) b = setH m b := by
  funext c j
  simp only [setH, up]
  grind
theorem m_mix (m : Mem) (h : Int64) (x : Int32) : f_X9_mix (setH m h) x = some (setH m (31 * h + x.toInt64), ()) := by
  unfold f_X9_mix
  rw [setH_j, lm_def]
  exact congrArg (fun z => some (z, ())) (setH_setH (m := m) (a := h) (b := 31 * h + x.toInt64))
theorem RM.h {m : Mem} {T : TT} {p : Nat} {P : Nat → TT} {n : Nat} {t q : TT} (r : RM m T p P n t q) (h : Int64) : RM (setH m h) T p P n t q := by
  unfold RM
  rw [setH_o (by decide) (by decide), setH_o (by decide) (by decide), setH_ne (by decide), setH_ne (by decide), setH_ne (by decide), setH_ne (by decide)]
  exact r
def tTold (p n : Nat) (q : TT) (j : Nat) : Int32 := if j < 3 then q j else if j = 3 then nI n else nI p
theorem c_tally {m : Mem} {T : TT} {p : Nat} {P : Nat → TT} {n : Nat} {t q : TT} (h : RC m T p P n t q) {j : Nat} (hj : j < 5) : f_X8_tally m (nI j) = some (m, tTold p n q j) := by
  obtain ⟨⟨h1, h2⟩, h3, h4, h5, h6, ⟨h7, h8⟩, ⟨a, b, c⟩⟩ := h
  unfold f_X8_tally
  rcases (show j = 0 ∨ j = 1 ∨ j = 2 ∨ j = 3 ∨ j = 4 by omega) with e2 | e2 | e2 | e2 | e2 <;> subst e2
  · show some (m, m 0 5) = _; rw [a]; rfl
  · show some (m, m 0 6) = _; rw [b]; rfl
  · show some (m, m 0 7) = _; rw [c]; rfl
  · show some (m, m 1 1) = _; rw [h7]; rfl
  · show some (m, m 54 1) = _; rw [h1]; rfl
theorem m_toldOf {m : Mem} {T : TT} {p : Nat} {P : Nat → TT} {n : Nat} {t q : TT} (r : RM m T p P n t q) {j : Nat} (hj : j < 5) : f_X9_toldOf m (nI j) = some (m, tTold p n q j) := by
  obtain ⟨r1, r2, r3, r4, r5, r6⟩ := r
  unfold f_X9_toldOf
  rcases (show j = 0 ∨ j = 1 ∨ j = 2 ∨ j = 3 ∨ j = 4 by omega) with e2 | e2 | e2 | e2 | e2 <;> subst e2
  · show some (m, m 115 0) = _; rw [r6 0 (by decide)]; rfl
  · show some (m, m 115 1) = _; rw [r6 1 (by decide)]; rfl
  · show some (m, m 115 2) = _; rw [r6 2 (by decide)]; rfl
  · show some (m, m 111 6) = _; rw [r4]; rfl
  · show some (m, m 111 3) = _; rw [r1]; rfl
def dRow (T : TT) (c o : Nat) (h : Int64) : Int64 := itG (mx (fun i => T (o + i))) 0 (ix (T c)) h
def dNode (T : TT) (i : Nat) (h : Int64) : Int64 := if T (27 + 20 * i + 1) = 1 then itG (mx (fun s => T (27 + 20 * i + 6 + s))) 0 3 (itG (mx (tOf T i)) 0 9 h) else itG (mx (tOf T i)) 0 9 h
def dAll (T : TT) (p n : Nat) (q : TT) : Int64 := dRow T 9 13 (dRow T 12 23 (dRow T 11 17 (itG (dNode T) 0 (ix (T 0)) (itG (mx (tState T)) 0 14 (itG (mx (tTold p n q)) 0 5 2783)))))
theorem c_digRow {m : Mem} {T : TT} {k c o L : Nat} (N : Nat) (hN : 60 ≤ N) (hL : L < 9) (e1 : m k 1 = T c) (e2 : ∀ i, i < L → m (k + 1) i = T (o + i)) (e3 : ln (k + 1) = L) (h0 : 0 ≤ T c) (hc : T c ≤ nI L) (h : Int64) : f_X2_digestFrom N k m h = some (m, dRow T c o h) := by
  obtain ⟨a, ha, e⟩ := rng (b := L) (by omega) h0 hc
  have ea : ix (T c) = a := by rw [e, ix_nI (by omega)]
  unfold f_X2_digestFrom dRow
  rw [ea]
  refine loopG nI (fun f h x => f_X2_digestFrom_5 N k f m h x) (mx (fun i => T (o + i))) a (fun h => some (m, h)) (fun f h i hi => ?_) (fun f h => ?_) a 0 N h (by omega) (by omega)
  · show f_X2_digestFrom_5b N k (f_X2_digestFrom_5 N k f) m h (nI i) = _
    unfold f_X2_digestFrom_5b
    rw [e1, e, if_neg (nI_ge hi (by omega)), c_at hL e1 e2 e3 hc (nI_le (a := 0) (by omega) (by omega)), bm_some, nI_1]
    have : tAt T c o (nI i) = T (o + i) := by
      unfold tAt
      rw [e, if_neg (nI_ge hi (by omega)), ix_nI (by omega)]
    rw [this]
    rfl
  · show f_X2_digestFrom_5b N k (f_X2_digestFrom_5 N k f) m h (nI a) = _
    unfold f_X2_digestFrom_5b
    rw [e1, e, if_pos (nI_le (Nat.le_refl a) (by omega))]
theorem m_digRow {m : Mem} {T : TT} {c o L : Nat} (N : Nat) (hN : 60 ≤ N) (hT : m 112 = T) (hL : L < 9) (hc2 : c < 300) (ho : o < 300) (h0 : 0 ≤ T c) (hc : T c ≤ nI L) (h : Int64) : f_X9_mixRow N (setH m h) (nI c) (nI o) = some (setH m (dRow T c o h), ()) := by
  obtain ⟨a, ha, e⟩ := rng (b := L) (by omega) h0 hc
  have ea : ix (T c) = a := by rw [e, ix_nI (by omega)]
  unfold f_X9_mixRow dRow
  rw [ea]
  refine loopG nI (fun f h x => f_X9_mixRow_2 N f (setH m h) (nI c) (nI o) x) (mx (fun i => T (o + i))) a (fun h => some (setH m h, ())) (fun f h i hi => ?_) (fun f h => ?_) a 0 N h (by omega) (by omega)
  · show f_X9_mixRow_2b N (f_X9_mixRow_2 N f) (setH m h) (nI c) (nI o) (nI i) = _
    unfold f_X9_mixRow_2b
    rw [gd_of (inR_nI (by omega) (by decide)), setH_ne (by decide), hT, ix_nI (by omega), e, if_neg (nI_ge hi (by omega)), nI_add, gd_of (inR_nI (by omega) (by decide)), ix_nI (by omega), m_mix, bm_some, nI_1]
    rfl
  · show f_X9_mixRow_2b N (f_X9_mixRow_2 N f) (setH m h) (nI c) (nI o) (nI a) = _
    unfold f_X9_mixRow_2b
    rw [gd_of (inR_nI (by omega) (by decide)), setH_ne (by decide), hT, ix_nI (by omega), e, if_pos (nI_le (Nat.le_refl a) (by omega))]
theorem c_digNode {m : Mem} {T : TT} (N : Nat) (hN : 60 ≤ N) (h : RSt m 43 T) (hn : RNd m T) (hI : IT T) {i : Nat} (hi : i < 16) (hi2 : nI i < T 0) (hi3 : i < ix (T 0)) (x : Int64) : f_X8_digestNode N m x (nI i) = some (m, dNode T i x) := by
  unfold f_X8_digestNode
  have hv := c_isValue h hn hI (nI i)
  rw [ix_nI (by omega)] at hv
  refine (loopG nI (fun f h y => f_X8_digestNode_6 N f m (nI i) h y) (mx (tOf T i)) 9 (fun x => (bm (f_X8_isValueNode m (nI i)) (fun m1 r1 => if r1 = 0 then (some (m1, x)) else (f_X8_digestNode_47 N N m1 (nI i) x 1)))) (fun f h y hy => ?_) (fun f h => ?_) 9 0 N x (by omega) (by omega)).trans ?_
  · show f_X8_digestNode_6b N (f_X8_digestNode_6 N f) m (nI i) h (nI y) = _
    unfold f_X8_digestNode_6b
    rw [if_neg (show ¬ (8 : Int32) < nI y from fun q => absurd ((nI_ltI (a := 8) (by omega) (by omega)).mp q) (by omega)), c_nodeReading (by assumption) hn hi hi3 (by omega), bm_some, nI_1]
    rfl
  · show f_X8_digestNode_6b N (f_X8_digestNode_6 N f) m (nI i) h (nI 9) = _
    unfold f_X8_digestNode_6b
    rw [if_pos (by decide)]
  · rw [hv, bm_some, if01]
    unfold dNode
    have h0 : 0 ≤ nI i := nI_le (a := 0) (by omega) (by omega)
    by_cases hk : T (27 + 20 * i + 1) = 1
    · rw [if_pos ⟨⟨h0, hi2⟩, hk⟩, if_pos hk]
      refine loopG (fun s => nI (s + 1)) (fun f h y => f_X8_digestNode_47 N f m (nI i) h y) (mx (fun s => T (27 + 20 * i + 6 + s))) 3 (fun x => some (m, x)) (fun f g y hy => ?_) (fun f h => ?_) 3 0 N _ (by omega) (by omega)
      · show f_X8_digestNode_47b N (f_X8_digestNode_47 N f) m (nI i) g (nI (y + 1)) = _
        unfold f_X8_digestNode_47b
        rw [if_neg (show ¬ (3 : Int32) < nI (y + 1) from fun q => absurd ((nI_ltI (a := 3) (by omega) (by omega)).mp q) (by omega)), c_numberOf m 43 hi hy, bm_some, nI_1, show m (43 + 4) (3 * i + y) = _ from h.2.2.2.2.2.2.2 i y hi hy]
        rfl
      · show f_X8_digestNode_47b N (f_X8_digestNode_47 N f) m (nI i) h (nI 4) = _
        unfold f_X8_digestNode_47b
        rw [if_pos (by decide)]
    · rw [if_neg (fun q => hk q.2), if_neg hk]
theorem s_digest {m : Mem} {T : TT} {p : Nat} {P : Nat → TT} {n : Nat} {t q : TT} (N : Nat) (hN : 1400 ≤ N) (h : Sim m T p P n t q) : Res (fun m => f_X8_digest N m) (fun m => f_X9_digest N m) m := by
  have hI := h.2.2.1
  obtain ⟨j, hj, ej⟩ := rng (b := 16) (x := T 0) (by decide) (by have := hI.1; grind) hI.1.2
  have eix : ix (T 0) = j := by rw [ej, ix_nI (by omega)]
  refine h.glue (dAll T p n q) T p P n t q ⟨m, ?_, h.1, CF.rf⟩ (fun m1 r => ⟨setH m1 (dAll T p n q), ?_, r.h _, fun k hk => setH_ne (by omega)⟩) h.2.2
  · show f_X8_digest N m = _
    have hr := h.1.2.2.1
    have hn := h.1.2.2.2.1
    unfold f_X8_digest
    refine (loopG nI (fun f h y => f_X8_digest_6 N f m h y) (mx (tTold p n q)) 5 (fun x => f_X8_digest_32 N N m x 0) (fun f g y hy => ?_) (fun f g => ?_) 5 0 N _ (by omega) (by omega)).trans ?_
    · show f_X8_digest_6b N (f_X8_digest_6 N f) m g (nI y) = _
      unfold f_X8_digest_6b
      rw [if_neg (show ¬ (4 : Int32) < nI y from fun q => absurd ((nI_ltI (a := 4) (by omega) (by omega)).mp q) (by omega)), c_tally h.1 hy, bm_some, nI_1]
      rfl
    · show f_X8_digest_6b N (f_X8_digest_6 N f) m g (nI 5) = _
      unfold f_X8_digest_6b
      rw [if_pos (by decide)]
    refine (loopG nI (fun f h y => f_X8_digest_32 N f m h y) (mx (tState T)) 14 (fun x => f_X8_digest_62 N N m x 0) (fun f g y hy => ?_) (fun f g => ?_) 14 0 N _ (by omega) (by omega)).trans ?_
    · show f_X8_digest_32b N (f_X8_digest_32 N f) m g (nI y) = _
      unfold f_X8_digest_32b
      rw [if_neg (show ¬ (13 : Int32) < nI y from fun q => absurd ((nI_ltI (a := 13) (by omega) (by omega)).mp q) (by omega)), c_reading hr hI hy, bm_some, nI_1]
      rfl
    · show f_X8_digest_32b N (f_X8_digest_32 N f) m g (nI 14) = _
      unfold f_X8_digest_32b
      rw [if_pos (by decide)]
    refine (loopG nI (fun f h y => f_X8_digest_62 N f m h y) (dNode T) j (fun x => some (m, dRow T 9 13 (dRow T 12 23 (dRow T 11 17 x)))) (fun f g y hy => ?_) (fun f g => ?_) j 0 N _ (by omega) (by omega)).trans ?_
    · show f_X8_digest_62b N (f_X8_digest_62 N f) m g (nI y) = _
      unfold f_X8_digest_62b
      rw [show m 43 0 = T 0 from hr.1.1, ej, if_neg (nI_ge hy (by omega)), if_neg (show ¬ (16 : Int32) ≤ nI y from nI_ge (b := 16) (by omega) (by decide)), c_digNode N (by omega) hr hn hI (by omega) (by rw [ej]; exact nI_lt hy (by omega)) (by omega), bm_some, nI_1]
    · show f_X8_digest_62b N (f_X8_digest_62 N f) m g (nI j) = _
      unfold f_X8_digest_62b f_X8_digest_92
      rw [show m 43 0 = T 0 from hr.1.1, ej, if_pos (nI_le (Nat.le_refl j) (by omega)), c_digRow (k := 48) (c := 11) (o := 17) (L := 6) N (by omega) (by decide) hr.1.2.2.2.2.2.2.2.2.2.2.2.1 hr.2.2.1 rfl hI.2.2.1.1 hI.2.2.1.2, bm_some, c_digRow (k := 50) (c := 12) (o := 23) (L := 4) N (by omega) (by decide) hr.1.2.2.2.2.2.2.2.2.2.2.2.2 hr.2.2.2.1 rfl hI.2.2.2.1.1 hI.2.2.2.1.2, bm_some, c_digRow (k := 52) (c := 9) (o := 13) (L := 4) N (by omega) (by decide) hr.1.2.2.2.2.2.2.2.2.2.1 hr.2.1 rfl hI.2.1.1 hI.2.1.2, bm_some]
    · unfold dAll
      rw [eix]
  · show f_X9_digest N m1 = _
    have hT := r.2.1
    have hTh : ∀ g, setH m1 g 112 = T := fun g => by rw [setH_ne (by decide), hT]
    unfold f_X9_digest
    rw [lm_def]
    show f_X9_digest_9 N N (setH m1 2783) (nI 0) = _
    refine (loopG nI (fun f h y => f_X9_digest_9 N f (setH m1 h) y) (mx (tTold p n q)) 5 (fun x => f_X9_digest_31 N N (setH m1 x) 0) (fun f g y hy => ?_) (fun f g => ?_) 5 0 N _ (by omega) (by omega)).trans ?_
    · show f_X9_digest_9b N (f_X9_digest_9 N f) (setH m1 g) (nI y) = _
      unfold f_X9_digest_9b
      rw [if_neg (show ¬ (5 : Int32) ≤ nI y from nI_ge (b := 5) hy (by decide)), m_toldOf (r.h g) hy, bm_some, m_mix, bm_some, nI_1]
      rfl
    · show f_X9_digest_9b N (f_X9_digest_9 N f) (setH m1 g) (nI 5) = _
      unfold f_X9_digest_9b
      rw [if_pos (by decide)]
    refine (loopG nI (fun f h y => f_X9_digest_31 N f (setH m1 h) y) (mx (tState T)) 14 (fun x => f_X9_digest_54 N N (setH m1 x) 0) (fun f g y hy => ?_) (fun f g => ?_) 14 0 N _ (by omega) (by omega)).trans ?_
    · show f_X9_digest_31b N (f_X9_digest_31 N f) (setH m1 g) (nI y) = _
      unfold f_X9_digest_31b
      rw [if_neg (show ¬ (14 : Int32) ≤ nI y from nI_ge (b := 14) hy (by decide)), m_stateOf (hTh g) hy, bm_some, m_mix, bm_some, nI_1]
      rfl
    · show f_X9_digest_31b N (f_X9_digest_31 N f) (setH m1 g) (nI 14) = _
      unfold f_X9_digest_31b
      rw [if_pos (by decide)]
    have l90 : ∀ (R : Mem → Int32 → Option (Mem × Int64)) (g : Int64) (i : Nat), i < j → f_X9_digest_90 N R N (setH m1 g) (nI i) 0 = R (setH m1 (if T (27 + 20 * i + 1) = 1 then itG (mx (fun s => T (27 + 20 * i + 6 + s))) 0 3 g else g)) (nI (i + 1)) := by
      intro R g i hi
      have h0 : 0 ≤ nI i := nI_le (a := 0) (by omega) (by omega)
      have hi2 : nI i < T 0 := by rw [ej]; exact nI_lt hi (by omega)
      have hk : ∀ g, f_X9_isKind (setH m1 g) (nI i) 1 = some (setH m1 g, if T (27 + 20 * i + 1) = 1 then 1 else 0) := by
        intro g
        have := m_isValue (hTh g) hI (nI i)
        rw [ix_nI (by omega)] at this
        rw [this]
        simp [h0, hi2]
      by_cases hv : T (27 + 20 * i + 1) = 1
      · rw [if_pos hv]
        refine (loopG nI (fun f h y => f_X9_digest_90 N R f (setH m1 h) (nI i) y) (mx (fun s => T (27 + 20 * i + 6 + s))) 3 (fun x => R (setH m1 x) (nI (i + 1))) (fun f g y hy => ?_) (fun f g => ?_) 3 0 N _ (by omega) (by omega))
        · show f_X9_digest_90b N R (f_X9_digest_90 N R f) (setH m1 g) (nI i) (nI y) = _
          unfold f_X9_digest_90b
          rw [if_neg (show ¬ (3 : Int32) ≤ nI y from nI_ge (b := 3) hy (by decide)), hk, bm_some, if01, if_pos hv, show (6 : Int32) = nI 6 from rfl, nI_add, m_ofNode _ (by omega) (by omega), bm_some, m_mix, bm_some, nI_1, hTh, ← Nat.add_assoc]
          rfl
        · show f_X9_digest_90b N R (f_X9_digest_90 N R f) (setH m1 g) (nI i) (nI 3) = _
          unfold f_X9_digest_90b f_X9_digest_123
          rw [if_pos (by decide), nI_1]
      · rw [if_neg hv]
        obtain ⟨f, rfl⟩ : ∃ k, N = k + 1 := ⟨N - 1, by omega⟩
        show f_X9_digest_90b (f + 1) R (f_X9_digest_90 (f + 1) R f) (setH m1 g) (nI i) 0 = _
        unfold f_X9_digest_90b f_X9_digest_123
        rw [if_neg (by decide), hk, bm_some, if01, if_neg hv, nI_1]
    refine (loopG nI (fun f h y => f_X9_digest_54 N f (setH m1 h) y) (dNode T) j (fun x => some (setH m1 (dRow T 9 13 (dRow T 12 23 (dRow T 11 17 x))), (dRow T 9 13 (dRow T 12 23 (dRow T 11 17 x))))) (fun f g y hy => ?_) (fun f g => ?_) j 0 N _ (by omega) (by omega)).trans ?_
    · show f_X9_digest_54b N (f_X9_digest_54 N f) (setH m1 g) (nI y) = _
      unfold f_X9_digest_54b
      rw [gd_of (show inR 0 347 = true from rfl), show ix 0 = 0 from rfl, hTh, ej, if_neg (nI_ge hy (by omega))]
      refine (loopG nI (fun f1 h z => f_X9_digest_66 N (f_X9_digest_54 N f) f1 (setH m1 h) (nI y) z) (mx (tOf T y)) 9 (fun x => f_X9_digest_90 N (f_X9_digest_54 N f) N (setH m1 x) (nI y) 0) (fun f1 g z hz => ?_) (fun f1 g => ?_) 9 0 N _ (by omega) (by omega)).trans ?_
      · show f_X9_digest_66b N (f_X9_digest_54 N f) (f_X9_digest_66 N (f_X9_digest_54 N f) f1) (setH m1 g) (nI y) (nI z) = _
        unfold f_X9_digest_66b
        rw [if_neg (show ¬ (9 : Int32) ≤ nI z from nI_ge (b := 9) hz (by decide)), m_toldOfNode (hTh g) (by omega) hz, bm_some, m_mix, bm_some, nI_1]
        rfl
      · show f_X9_digest_66b N (f_X9_digest_54 N f) (f_X9_digest_66 N (f_X9_digest_54 N f) f1) (setH m1 g) (nI y) (nI 9) = _
        unfold f_X9_digest_66b
        rw [if_pos (by decide)]
      · rw [l90 _ _ y hy]
        rfl
    · show f_X9_digest_54b N (f_X9_digest_54 N f) (setH m1 g) (nI j) = _
      unfold f_X9_digest_54b
      rw [gd_of (show inR 0 347 = true from rfl), show ix 0 = 0 from rfl, hTh, ej, if_pos (nI_le (Nat.le_refl j) (by omega)), show f_X9_mixRow N (setH m1 g) 11 17 = _ from m_digRow (c := 11) (o := 17) (L := 6) N (by omega) hT (by decide) (by decide) (by decide) hI.2.2.1.1 hI.2.2.1.2 g, bm_some, show f_X9_mixRow N (setH m1 (dRow T 11 17 g)) 12 23 = _ from m_digRow (c := 12) (o := 23) (L := 4) N (by omega) hT (by decide) (by decide) (by decide) hI.2.2.2.1.1 hI.2.2.2.1.2 _, bm_some, show f_X9_mixRow N (setH m1 (dRow T 12 23 (dRow T 11 17 g))) 9 13 = _ from m_digRow (c := 9) (o := 13) (L := 4) N (by omega) hT (by decide) (by decide) (by decide) hI.2.1.1 hI.2.1.2 _, bm_some, setH_j]
    · unfold dAll
      rw [eix]
