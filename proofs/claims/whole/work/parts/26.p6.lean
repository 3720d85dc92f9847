/-! the class copies a state -/
def cpR (m : Mem) (a b L : Nat) : Mem := fun c j => if c = a + 1 ∧ j < L then m (b + 1) j else m c j
theorem c_copyRow (N : Nat) (hN : 10 ≤ N) (m : Mem) (a b L : Nat) (hL : L < 9) (ha : ln (a + 1) = L) (hb : ln (b + 1) = L) (hab : a + 1 ≠ b + 1) : f_X2_copyFrom N a b m = some (up (cpR m a b L) a 1 (cpR m a b L b 1), ()) := by
  have h := loopUp (fun f m x => f_X2_copyFrom_2 N a b f m x) L (fun m _ => m) (fun m => some (up m a 1 (m b 1), ())) (fun i => cpR m a b i) ?_ ?_ L 0 N (by omega) (by omega)
  · have e : cpR m a b 0 = m := by funext c j; simp [cpR]
    unfold f_X2_copyFrom
    simp only [e] at h
    exact h
  · intro f i hi
    show f_X2_copyFrom_2b N a b (f_X2_copyFrom_2 N a b f) _ _ = _
    unfold f_X2_copyFrom_2b
    rw [ha, hb, lit, if_neg (nI_ge hi (by omega)), gd_of (inR_nI hi (by omega)), ix_nI (by omega), lm_def, nI_1]
    simp only [if_neg (nI_ge hi (show L < 2 ^ 31 by omega)), gd_of (inR_nI hi (show L < 2 ^ 31 by omega))]
    congr 2
    funext c j
    simp only [cpR, up]
    grind
  · intro f
    show f_X2_copyFrom_2b N a b (f_X2_copyFrom_2 N a b f) _ _ = _
    unfold f_X2_copyFrom_2b f_X2_copyFrom_38
    rw [ha, lit, if_pos (nI_le (Nat.le_refl L) (by omega)), lm_def]
def cp3 (m : Mem) (a b i : Nat) : Mem := fun c j => if c = a + 1 ∧ j < i then m (b + 1) j else if c = a + 2 ∧ j < i then m (b + 2) j else if c = a + 3 ∧ j < i then m (b + 3) j else m c j
def cp4 (m : Mem) (a b i : Nat) : Mem := fun c j => if c = a + 4 ∧ j < i then m (b + 4) j else m c j
theorem up9 (m : Mem) (a : Nat) (v8 v9 v10 v11 v12 v13 v14 v15 v16 : Int32) : ∃ m', m' = up (up (up (up (up (up (up (up (up m a 8 v8) a 9 v9) a 10 v10) a 11 v11) a 12 v12) a 13 v13) a 14 v14) a 15 v15) a 16 v16 ∧ (∀ c, c ≠ a → m' c = m c) ∧ m' a 0 = m a 0 ∧ m' a 8 = v8 ∧ m' a 9 = v9 ∧ m' a 10 = v10 ∧ m' a 11 = v11 ∧ m' a 12 = v12 ∧ m' a 13 = v13 ∧ m' a 14 = v14 ∧ m' a 15 = v15 ∧ m' a 16 = v16 := by
  refine ⟨_, rfl, fun c hc => ?_, ?_, ?_, ?_, ?_, ?_, ?_, ?_, ?_, ?_, ?_⟩
  · funext j; simp [up, hc]
  all_goals simp [up]
/-- what the copy leaves: the block a is the block b (as far as it is looked at), nothing else moves -/
def Cpd (m m' : Mem) (a b : Nat) : Prop := (∀ T, RSt m b T → RSt m' a T) ∧ ∀ c, (c < a ∨ a + 11 ≤ c) → m' c = m c
theorem c_copySt (N : Nat) (hN : 60 ≤ N) (m : Mem) (a b : Nat) (ha : isSt a = true) (hb : isSt b = true) (hd : a + 11 ≤ b ∨ b + 11 ≤ a) (hB : isB (m b 16) = true) : ∃ m', f_X3_copyFrom N a b m = some (m', ()) ∧ Cpd m m' a b := by
  have f1 : ∀ m0 : Mem, f_X3_copyFrom_10 N a b N m0 0 = f_X3_copyFrom_60 N a b N (cp3 m0 a b 16) 0 := by
    intro m0
    have h := loopUp (fun f m x => f_X3_copyFrom_10 N a b f m x) 16 (fun m _ => m) (fun m => f_X3_copyFrom_60 N a b N m 0) (fun i => cp3 m0 a b i) ?_ ?_ 16 0 N rfl (by omega)
    · have e : cp3 m0 a b 0 = m0 := by funext c j; simp [cp3]
      simp only [e] at h
      exact h
    · intro f i hi
      show f_X3_copyFrom_10b N a b (f_X3_copyFrom_10 N a b f) _ _ = _
      unfold f_X3_copyFrom_10b
      rw [if_neg (show ¬ (16 : Int32) ≤ nI i from nI_ge (b := 16) hi (by decide))]
      simp only [gd_of (inR_nI hi (show 16 < 2 ^ 31 by decide)), ix_nI (show i < 2 ^ 31 by omega), lm_def, nI_1]
      congr 2
      funext c j
      simp only [cp3, up]
      grind
    · intro f
      show f_X3_copyFrom_10b N a b (f_X3_copyFrom_10 N a b f) _ _ = _
      unfold f_X3_copyFrom_10b
      rw [if_pos (by decide)]
  have f2 : ∀ m0 : Mem, ∃ F : Mem → Option (Mem × Unit), f_X3_copyFrom_60 N a b N m0 0 = F (cp4 m0 a b 48) ∧ ∀ m, F m = f_X3_copyFrom_60b N a b (fun _ _ => none) m 48 := by
    intro m0
    refine ⟨fun m => f_X3_copyFrom_60b N a b (fun _ _ => none) m 48, ?_, fun _ => rfl⟩
    have h := loopUp (fun f m x => f_X3_copyFrom_60 N a b f m x) 48 (fun m _ => m) (fun m => f_X3_copyFrom_60b N a b (fun _ _ => none) m 48) (fun i => cp4 m0 a b i) ?_ ?_ 48 0 N rfl (by omega)
    · have e : cp4 m0 a b 0 = m0 := by funext c j; simp [cp4]
      simp only [e] at h
      exact h
    · intro f i hi
      show f_X3_copyFrom_60b N a b (f_X3_copyFrom_60 N a b f) _ _ = _
      unfold f_X3_copyFrom_60b
      rw [if_neg (show ¬ (48 : Int32) ≤ nI i from nI_ge (b := 48) hi (by decide))]
      simp only [gd_of (inR_nI hi (show 48 < 2 ^ 31 by decide)), ix_nI (show i < 2 ^ 31 by omega), lm_def, nI_1]
      congr 2
      funext c j
      simp only [cp4, up]
      grind
    · intro f
      show f_X3_copyFrom_60b N a b (f_X3_copyFrom_60 N a b f) _ _ = _
      unfold f_X3_copyFrom_60b
      rw [if_pos (by decide), if_pos (by decide)]
  obtain ⟨F, hF, hF2⟩ := f2 (cp3 (up m a 0 (m b 0)) a b 16)
  unfold f_X3_copyFrom
  rw [lm_def, f1, hF, hF2]
  generalize hm1 : cp4 (cp3 (up m a 0 (m b 0)) a b 16) a b 48 = m1
  unfold f_X3_copyFrom_60b
  rw [if_pos (by decide), c_copyRow N (by omega) m1 (a + 5) (b + 5) 6 (by decide) (lst6 ha) (lst6 hb) (by omega), bm_some]
  generalize hm2 : up (cpR m1 (a + 5) (b + 5) 6) (a + 5) 1 (cpR m1 (a + 5) (b + 5) 6 (b + 5) 1) = m2
  rw [c_copyRow N (by omega) m2 (a + 7) (b + 7) 4 (by decide) (lst8 ha) (lst8 hb) (by omega), bm_some]
  generalize hm3 : up (cpR m2 (a + 7) (b + 7) 4) (a + 7) 1 (cpR m2 (a + 7) (b + 7) 4 (b + 7) 1) = m3
  rw [c_copyRow N (by omega) m3 (a + 9) (b + 9) 4 (by decide) (lst10 ha) (lst10 hb) (by omega), bm_some]
  generalize hm4 : up (cpR m3 (a + 9) (b + 9) 4) (a + 9) 1 (cpR m3 (a + 9) (b + 9) 4 (b + 9) 1) = m4
  have g1 : ∀ c j, m1 c j = if c = a + 4 ∧ j < 48 then m (b + 4) j else if c = a + 1 ∧ j < 16 then m (b + 1) j else if c = a + 2 ∧ j < 16 then m (b + 2) j else if c = a + 3 ∧ j < 16 then m (b + 3) j else if c = a ∧ j = 0 then m b 0 else m c j := by
    intro c j
    rw [← hm1]
    simp only [cp4, cp3, up]
    grind
  have g2 : ∀ c j, m2 c j = if c = a + 5 ∧ j = 1 then m1 (b + 5) 1 else if c = a + 6 ∧ j < 6 then m1 (b + 6) j else m1 c j := by
    intro c j
    rw [← hm2]
    simp only [cpR, up]
    grind
  have g3 : ∀ c j, m3 c j = if c = a + 7 ∧ j = 1 then m2 (b + 7) 1 else if c = a + 8 ∧ j < 4 then m2 (b + 8) j else m2 c j := by
    intro c j
    rw [← hm3]
    simp only [cpR, up]
    grind
  have g4 : ∀ c j, m4 c j = if c = a + 9 ∧ j = 1 then m3 (b + 9) 1 else if c = a + 10 ∧ j < 4 then m3 (b + 10) j else m3 c j := by
    intro c j
    rw [← hm4]
    simp only [cpR, up]
    grind
  have gb : ∀ c j, c < 11 → m4 (b + c) j = m (b + c) j := by
    intro c j hc
    rw [g4, if_neg (by omega), if_neg (by omega), g3, if_neg (by omega), if_neg (by omega), g2, if_neg (by omega), if_neg (by omega), g1, if_neg (by omega), if_neg (by omega), if_neg (by omega), if_neg (by omega), if_neg (by omega)]
  have ga : ∀ c j, (c < a ∨ a + 11 ≤ c) → m4 c j = m c j := by
    intro c j hc
    rw [g4, if_neg (by omega), if_neg (by omega), g3, if_neg (by omega), if_neg (by omega), g2, if_neg (by omega), if_neg (by omega), g1, if_neg (by omega), if_neg (by omega), if_neg (by omega), if_neg (by omega), if_neg (by omega)]
  have g5 : m4 (a + 5) 1 = m (b + 5) 1 := by rw [g4, if_neg (by omega), if_neg (by omega), g3, if_neg (by omega), if_neg (by omega), g2, if_pos (by omega), g1, if_neg (by omega), if_neg (by omega), if_neg (by omega), if_neg (by omega), if_neg (by omega)]
  have g7 : m4 (a + 7) 1 = m (b + 7) 1 := by rw [g4, g3, g2, g2, g1]; grind
  have g9 : m4 (a + 9) 1 = m (b + 9) 1 := by rw [g4, g3, g2, g1]; grind
  have g6 : ∀ j, j < 6 → m4 (a + 6) j = m (b + 6) j := by intro j hj; rw [g4, g3, g2, g1]; grind
  have g8 : ∀ j, j < 4 → m4 (a + 8) j = m (b + 8) j := by intro j hj; rw [g4, g3, g2, g2, g1]; grind
  have g10 : ∀ j, j < 4 → m4 (a + 10) j = m (b + 10) j := by intro j hj; rw [g4, g3, g2, g1]; grind
  have g1a : ∀ j, j < 16 → m4 (a + 1) j = m (b + 1) j := by intro j hj; rw [g4, g3, g2, g1]; grind
  have g2a : ∀ j, j < 16 → m4 (a + 2) j = m (b + 2) j := by intro j hj; rw [g4, g3, g2, g1]; grind
  have g3a : ∀ j, j < 16 → m4 (a + 3) j = m (b + 3) j := by intro j hj; rw [g4, g3, g2, g1]; grind
  have g4a : ∀ j, j < 48 → m4 (a + 4) j = m (b + 4) j := by intro j hj; rw [g4, g3, g2, g1]; grind
  have g0a : m4 a 0 = m b 0 := by rw [g4, g3, g2, g1]; grind
  have hb0 : ∀ j, m4 b j = m b j := fun j => gb 0 j (by decide)
  have hab : a ≠ b := by omega
  simp only [lm_def]
  have r : ∀ (x : Mem) s v, up x a s v b = x b := fun x s v => up_ne (Ne.symm hab)
  simp only [r]
  rw [gd_of (show isB (m4 b 16) = true by rw [hb0]; exact hB)]
  simp only [hb0]
  obtain ⟨m5, h5, hn, u0, u8, u9, u10, u11, u12, u13, u14, u15, u16⟩ := up9 m4 a (m b 8) (m b 9) (m b 10) (m b 11) (m b 12) (m b 13) (m b 14) (m b 15) (m b 16)
  rw [← h5]
  refine ⟨m5, rfl, fun T hT => ?_, fun c hc => ?_⟩
  · obtain ⟨⟨a0, a1, a2, a3, a4, a5, a6, a7, a8, a9, a10, a11, a12⟩, b1, b2, b3, b4, b5, b6, b7⟩ := hT
    have q : ∀ i, m5 (a + (i + 1)) = m4 (a + (i + 1)) := fun i => hn _ (by omega)
    unfold RSt
    simp only [q 0, q 1, q 2, q 3, q 4, q 5, q 6, q 7, q 8, q 9, Nat.reduceAdd, u0, u8, u9, u10, u11, u12, u13, u14, u15, u16, q 0]
    refine ⟨⟨?_, ?_, ?_, ?_, ?_, ?_, ?_, ?_, ?_, ?_, ?_, ?_, ?_⟩, ?_, ?_, ?_, ?_, ?_, ?_, ?_⟩
    · rw [g0a, a0]
    · exact a1
    · exact a2
    · exact a3
    · exact a4
    · exact a5
    · exact a6
    · exact a7
    · exact a8
    · rw [g9, a9]
    · exact a10
    · rw [g5, a11]
    · rw [g7, a12]
    · intro i hi; rw [g10 i hi, b1 i hi]
    · intro i hi; rw [g6 i hi, b2 i hi]
    · intro i hi; rw [g8 i hi, b3 i hi]
    · intro i hi; rw [g1a i hi, b4 i hi]
    · intro i hi; rw [g2a i hi, b5 i hi]
    · intro i hi; rw [g3a i hi, b6 i hi]
    · intro i s hi hs; rw [g4a _ (by omega), b7 i s hi hs]
  · funext j
    rw [hn c (by omega)]
    exact ga c j hc
