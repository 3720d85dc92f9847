theorem RSt.cg2 {m : Mem} {k : Nat} {T T' : TT} (h : RSt m k T) (e : ∀ j, j < 27 → T' j = T j) (e2 : ∀ n w, n < 16 → 4 ≤ w → w < 10 → T' (27 + 20 * n + w) = T (27 + 20 * n + w)) : RSt m k T' := by
  obtain ⟨⟨a0, a1, a2, a3, a4, a5, a6, a7, a8, a9, a10, a11, a12⟩, b1, b2, b3, b4, b5, b6, b7⟩ := h
  unfold RSt
  rw [e 0 (by decide), e 1 (by decide), e 2 (by decide), e 3 (by decide), e 4 (by decide), e 5 (by decide), e 6 (by decide), e 7 (by decide), e 8 (by decide), e 9 (by decide), e 10 (by decide), e 11 (by decide), e 12 (by decide)]
  refine ⟨⟨a0, a1, a2, a3, a4, a5, a6, a7, a8, a9, a10, a11, a12⟩, fun i hi => by rw [e _ (by omega)]; exact b1 i hi, fun i hi => by rw [e _ (by omega)]; exact b2 i hi, fun i hi => by rw [e _ (by omega)]; exact b3 i hi, fun i hi => by rw [e2 i 4 hi (by decide) (by decide)]; exact b4 i hi, fun i hi => by rw [e2 i 5 hi (by decide) (by decide)]; exact b5 i hi, fun i hi => by rw [e2 i 9 hi (by decide) (by decide)]; exact b6 i hi, fun i s hi hs => ?_⟩
  rw [show 27 + 20 * i + 6 + s = 27 + 20 * i + (6 + s) by omega, e2 i (6 + s) hi (by omega) (by omega), b7 i s hi hs, Nat.add_assoc]
theorem tNode_w {T : TT} {j : Nat} {x1 x2 x3 x4 : Int32} {n : Nat} {t : TT} {w : Nat} (hw : w < 20) : tNode T j x1 x2 x3 x4 n t (27 + 20 * j + w) = tNw x1 x2 x3 x4 n t w := by
  unfold tNode
  rw [if_neg (by omega), if_pos (by omega), show 27 + 20 * j + w - (27 + 20 * j) = w by omega]
theorem tNode_o {T : TT} {j : Nat} {x1 x2 x3 x4 : Int32} {n : Nat} {t : TT} {i : Nat} (hw : ¬ (27 + 20 * j ≤ i ∧ i < 27 + 20 * j + 20)) (h0 : i ≠ 0) : tNode T j x1 x2 x3 x4 n t i = T i := by
  unfold tNode
  rw [if_neg h0, if_neg hw]
theorem tNode_0 {T : TT} {j : Nat} {x1 x2 x3 x4 : Int32} {n : Nat} {t : TT} : tNode T j x1 x2 x3 x4 n t 0 = T 0 + 1 := rfl
theorem c_takeName {m : Mem} {n : Nat} {t : TT} (h : TC m n t) {N : Nat} (hN : 200 ≤ N) (ho : nmOk n t) (k : Nat) (hk : 6 ≤ k) : ∃ m', f_X1_takeName N k m = some (m', ()) ∧ m' k 4 = nI (nmK n t) ∧ m' k 5 = nI n ∧ (∀ i, i ≠ 4 → i ≠ 5 → m' k i = m k i) ∧ (∀ i, i < n → m' (k + 1) i = cap (t i)) ∧ ∀ c, c ≠ k → c ≠ k + 1 → m' c = m c := by
  obtain ⟨o1, o2, o3, o4⟩ := nm_facts ho
  unfold f_X1_takeName
  rw [show (0 : Int32) = nI 0 from rfl, c_pastCapitals h hN (by decide), bm_some, lm_def, lm_def, up_ne (by omega), h.1]
  generalize hg : up (up m k 4 (nI (sk isCap n t 0))) k 5 (nI n) = m3
  have f : ∀ c, c ≠ k → m3 c = m c := fun c hc => by rw [← hg, up_ne hc, up_ne hc]
  have h3 : TC m3 n t := by
    unfold TC
    rw [f 1 (by omega), f 2 (by omega)]
    exact h
  have e5 : m3 k 5 = nI n := by rw [← hg]; simp [up]
  have e4 : m3 k 4 = nI (nmK n t) := by rw [← hg]; simp [up]; rfl
  have ee : ∀ i, i ≠ 4 → i ≠ 5 → m3 k i = m k i := fun i h1 h2 => by rw [← hg]; simp [up, h1, h2]
  have hl := loopUp (fun f m x => f_X1_takeName_19 N k f m x) n (fun m _ => m) (fun m => some (m, ())) (fun x => setC m3 (k + 1) (fun i => if i < x then cap (t i) else m3 (k + 1) i)) ?_ ?_ n 0 N (by omega) (by omega)
  · have e : setC m3 (k + 1) (fun i => if i < 0 then cap (t i) else m3 (k + 1) i) = m3 := by simp [setC_self]
    simp only [e] at hl
    refine ⟨_, hl, ?_, ?_, fun i h1 h2 => ?_, fun i hi => ?_, fun c h1 h2 => ?_⟩
    · rw [setC_ne (by omega), e4]
    · rw [setC_ne (by omega), e5]
    · rw [setC_ne (by omega), ee i h1 h2]
    · rw [setC_at, if_pos hi]
    · rw [setC_ne h2, f c h1]
  · intro g i hi
    show f_X1_takeName_19b N k (f_X1_takeName_19 N k g) _ _ = _
    unfold f_X1_takeName_19b
    have ht : TC (setC m3 (k + 1) (fun i_1 => if i_1 < i then cap (t i_1) else m3 (k + 1) i_1)) n t := by
      unfold TC
      rw [setC_ne (by omega), setC_ne (by omega)]
      exact h3
    have hs := let_sml (o4 i hi)
    rw [setC_ne (show k ≠ k + 1 by omega), e5, if_neg (nI_ge hi (by omega)), if_neg (show ¬ (8 : Int32) ≤ nI i from nI_ge (b := 8) (by omega) (by decide)), c_capitalAt ht (by omega), bm_some, show ch n t i = t i from if_pos hi, gd_of (inR_nI (by omega) (by decide)), ix_nI (by omega), lm_def, nI_1, byte_id hs.2.2.2.1 hs.2.2.2.2, up_setC, setC_at, setC_setC]
    congr 2
    funext a
    simp only [upd]
    by_cases ha : a = i
    · subst ha
      rw [if_pos rfl, if_pos (by omega)]
    · rw [if_neg ha]
      by_cases hb : a < i
      · rw [if_pos hb, if_pos (by omega)]
      · rw [if_neg hb, if_neg (by omega)]
  · intro g
    show f_X1_takeName_19b N k (f_X1_takeName_19 N k g) _ _ = _
    unfold f_X1_takeName_19b
    rw [setC_ne (show k ≠ k + 1 by omega), e5, if_pos (nI_le (Nat.le_refl n) (by omega))]
theorem c_addNode {m : Mem} {T : TT} {N : Nat} (hN : 200 ≤ N) {j : Nat} (hj : j < 16) (h0 : T 0 = nI j) (h : RSt m 43 T) (g : Int32) : ∃ m', f_X3_addNode N 43 m g = some (m', ()) ∧ RSt m' 43 (upd (tSetAll (upd (upd (upd T (27 + 20 * j + 4) 0) (27 + 20 * j + 5) g) (27 + 20 * j + 9) 0) j) 0 (T 0 + 1)) ∧ ∀ k, (k < 43 ∨ 53 < k) → m' k = m k := by
  have e0 : m 43 0 = nI j := by rw [← h0]; exact h.1.1
  unfold f_X3_addNode
  have u1 : ∀ v, up m 44 j v 43 0 = nI j := fun v => by rw [up_ne (by decide), e0]
  have u2 : ∀ v w, up (up m 44 j v) 45 j w 43 0 = nI j := fun v w => by rw [up_ne (by decide), u1]
  have u3 : ∀ v w u, up (up (up m 44 j v) 45 j w) 46 j u 43 0 = nI j := fun v w u => by rw [up_ne (by decide), u2]
  simp only [Nat.reduceAdd, e0, if_neg (nI_pos (show j < 2 ^ 31 by omega)), if_neg (show ¬ (16 : Int32) ≤ nI j from nI_ge (b := 16) hj (by decide)), gd_of (inR_nI hj (show 16 < 2 ^ 31 by decide)), ix_nI (show j < 2 ^ 31 by omega), lm_def, u1, u2, u3, c_lowerN N (show 4 ≤ N by omega) _ 43 hj, bm_some]
  have u4 : ∀ (M : Mem) a b c d e f, up (up (up M 47 a b) 47 c d) 47 e f 43 0 = M 43 0 := fun M a b c d e f => by rw [up_ne (by decide), up_ne (by decide), up_ne (by decide)]
  rw [u4, u3, h0]
  refine ⟨_, rfl, RS_0 (nI j + 1) (RSt_setAll (RS_times 0 hj (RS_high g hj (RS_low 0 hj h))) hj), fun k hk => ?_⟩
  rw [up_ne (by omega), up_ne (by omega), up_ne (by omega), up_ne (by omega), up_ne (by omega), up_ne (by omega), up_ne (by omega)]
theorem ix_le {x y : Int32} {b : Nat} (hb : b < 2 ^ 31) (h0 : 0 ≤ x) (h1 : x ≤ y) (h2 : y = nI b) : ix x ≤ b := by
  obtain ⟨j, hj, e⟩ := rng hb h0 (by rw [← h2]; exact h1)
  rw [e, ix_nI (by omega)]
  exact hj
theorem c_nodeMake {m : Mem} {T : TT} {p : Nat} {P : Nat → TT} {n : Nat} {t q : TT} (N : Nat) (hN : 1400 ≤ N) (h : RC m T p P n t q) (hI : IA T p P n t) {j : Nat} (hj : j < 16) (h0 : T 0 = nI j) (ho : nmOk n t) (x1 x2 x3 x4 : Int32) : ∃ m', gd (inR (m 43 0) 16) (lm (up m (6 + 2 * ix (m 43 0)) 0 x1) (fun m7 => lm (up m7 (6 + 2 * ix (m 43 0)) 1 x2) (fun m8 => lm (up m8 (6 + 2 * ix (m 43 0)) 2 x3) (fun m9 => lm (up m9 (6 + 2 * ix (m 43 0)) 3 x4) (fun m10 => bm (f_X1_takeName N (6 + 2 * ix (m 43 0)) m10) (fun m11 _ => if x2 = 1 then (f_X8_node_164 N m11 (m 43 0) 9999) else (f_X8_node_164 N m11 (m 43 0) 0))))))) = some (m', nI j) ∧ RC m' (tNode T j x1 x2 x3 x4 n t) p P n t q ∧ CF m m' := by
  obtain ⟨o1, o2, o3, o4⟩ := nm_facts ho
  have htc := h.tc hI
  obtain ⟨⟨h1, h2⟩, h3, h4, h5, h6, ⟨h7, h8⟩, h9⟩ := h
  have e0 : m 43 0 = nI j := by rw [← h0]; exact h4.1.1
  rw [e0, gd_of (inR_nI hj (by decide)), ix_nI (by omega), lm_def, lm_def, lm_def, lm_def]
  generalize hg : up (up (up (up m (6 + 2 * j) 0 x1) (6 + 2 * j) 1 x2) (6 + 2 * j) 2 x3) (6 + 2 * j) 3 x4 = m1
  have f1 : ∀ c, c ≠ 6 + 2 * j → m1 c = m c := fun c hc => by rw [← hg, up_ne hc, up_ne hc, up_ne hc, up_ne hc]
  have a0 : m1 (6 + 2 * j) 0 = x1 := by rw [← hg]; simp [up]
  have a1 : m1 (6 + 2 * j) 1 = x2 := by rw [← hg]; simp [up]
  have a2 : m1 (6 + 2 * j) 2 = x3 := by rw [← hg]; simp [up]
  have a3 : m1 (6 + 2 * j) 3 = x4 := by rw [← hg]; simp [up]
  have ht1 : TC m1 n t := by
    unfold TC
    rw [f1 1 (by omega), f1 2 (by omega)]
    exact htc
  obtain ⟨m2, t1, t2, t3, t4, t5, t6⟩ := c_takeName (N := N) ht1 (by omega) ho (6 + 2 * j) (by omega)
  rw [t1, bm_some]
  have f2 : ∀ c, c ≠ 6 + 2 * j → c ≠ 7 + 2 * j → m2 c = m c := fun c h1 h2 => by rw [t6 c h1 (by omega), f1 c h1]
  have hr2 : RSt m2 43 T := h4.fr (fun c hc => f2 _ (by omega) (by omega))
  have key : ∀ g : Int32, (if x2 = 1 then (9999 : Int32) else 0) = g → ∃ m', f_X8_node_164 N m2 (nI j) g = some (m', nI j) ∧ RC m' (tNode T j x1 x2 x3 x4 n t) p P n t q ∧ CF m m' := by
    intro g hg
    obtain ⟨m3, b1, b2, b3⟩ := c_addNode (N := N) (by omega) hj h0 hr2 g
    unfold f_X8_node_164
    rw [b1, bm_some]
    have f3 : ∀ c, (c < 43 ∨ 53 < c) → c ≠ 6 + 2 * j → c ≠ 7 + 2 * j → m3 c = m c := fun c h1 h2 h3 => by rw [b3 c h1, f2 c h2 h3]
    have ek : ∀ i, kK m3 i = kK m i := fun i => by unfold kK; rw [f3 55 (by omega) (by omega) (by omega)]
    have hn3 : ∀ S : TT, RNd m S → ix (S 0) ≤ j → RNd m3 S := by
      intro S hS hS0 n' q1 q2
      have := hS n' q1 q2
      rw [f3 (6 + 2 * n') (by omega) (by omega) (by omega), f3 (7 + 2 * n') (by omega) (by omega) (by omega)]
      exact this
    refine ⟨m3, rfl, ⟨⟨by rw [f3 54 (by omega) (by omega) (by omega), h1], h2⟩, ?_, ?_, ?_, fun i hi => ?_, ⟨by rw [f3 1 (by omega) (by omega) (by omega), h7], fun j hj => by rw [f3 2 (by omega) (by omega) (by omega), h8 j hj]⟩, by rw [f3 0 (by omega) (by omega) (by omega)]; exact h9⟩, fun k hk => f3 k (by omega) (by omega) (by omega)⟩
    · unfold HP
      simp only [ek]
      exact h3
    · refine b2.cg2 (fun i hi => ?_) (fun n' w hn' hw1 hw2 => ?_)
      · by_cases hi0 : i = 0
        · subst hi0; simp [upd, tNode]
        · rw [tNode_o (by omega) hi0]
          simp only [upd, tSetAll]
          rw [if_neg hi0, if_neg (by omega), if_neg (by omega), if_neg (by omega), if_neg (by omega), if_neg (by omega), if_neg (by omega)]
      · by_cases hnj : n' = j
        · subst hnj
          rw [tNode_w (by omega)]
          have q : ∀ c, (27 + 20 * n' + w = 27 + 20 * n' + c) = (w = c) := fun c => by apply propext; omega
          rcases (show w = 4 ∨ w = 5 ∨ w = 6 ∨ w = 7 ∨ w = 8 ∨ w = 9 by omega) with e | e | e | e | e | e <;> subst e <;> simp [tNw, tSetAll, upd, hg]
          all_goals omega
        · rw [tNode_o (by omega) (by omega)]
          simp only [upd, tSetAll]
          rw [if_neg (by omega), if_neg (by omega), if_neg (by omega), if_neg (by omega), if_neg (by omega), if_neg (by omega), if_neg (by omega)]
    · intro n' q1 q2
      rw [tNode_0, h0, nI_1, ix_nI (by omega)] at q1
      by_cases hnj : n' = j
      · subst hnj
        have g1 : m3 (6 + 2 * n') = m2 (6 + 2 * n') := b3 _ (by omega)
        have g2 : m3 (7 + 2 * n') = m2 (7 + 2 * n') := b3 _ (by omega)
        rw [g1, g2, tNode_w (by omega), tNode_w (by omega), tNode_w (by omega), tNode_w (by omega), tNode_w (by omega), tNode_w (by omega), t4 0 (by decide) (by decide), t4 1 (by decide) (by decide), t4 2 (by decide) (by decide), t4 3 (by decide) (by decide), t2, t3, a0, a1, a2, a3]
        refine ⟨rfl, rfl, rfl, rfl, rfl, rfl, fun i hi hh => ?_⟩
        have hi2 : i < n := (nI_ltI (by omega) (by omega)).mp (show nI i < nI n from hh)
        rw [show 27 + 20 * n' + 12 + i = 27 + 20 * n' + (12 + i) by omega, tNode_w (by omega), show 7 + 2 * n' = 6 + 2 * n' + 1 by omega, t5 i hi2, (let_sml (o4 i hi2)).1]
        unfold tNw
        simp only [show ¬ 12 + i = 0 by omega, show ¬ 12 + i = 1 by omega, show ¬ 12 + i = 2 by omega, show ¬ 12 + i = 3 by omega, show ¬ 12 + i = 5 by omega, show ¬ 12 + i = 10 by omega, show ¬ 12 + i = 11 by omega, if_false, if_pos (show 12 ≤ 12 + i ∧ 12 + i < 12 + n by omega), show 12 + i - 12 = i by omega]
      · have := h5 n' (by rw [h0, ix_nI (by omega)]; omega) q2
        rw [f3 (6 + 2 * n') (by omega) (by omega) (by omega), f3 (7 + 2 * n') (by omega) (by omega) (by omega), tNode_o (by omega) (by omega), tNode_o (by omega) (by omega), tNode_o (by omega) (by omega), tNode_o (by omega) (by omega), tNode_o (by omega) (by omega), tNode_o (by omega) (by omega)]
        obtain ⟨z0, z1, z2, z3, z4, z5, z6⟩ := this
        refine ⟨z0, z1, z2, z3, z4, z5, fun i hi hh => ?_⟩
        rw [tNode_o (by omega) (by omega)]
        exact z6 i hi hh
    · have hki := h3.1 i (by omega)
      have hri := st_rng hki.1 hki.2
      rw [ek]
      refine ⟨(h6 i hi).1.fr (fun c hc => f3 _ (by omega) (by omega) (by omega)), hn3 _ (h6 i hi).2 ?_⟩
      have i1 := (hI.2.2.1 i hi).1
      exact ix_le (by omega) (by grind) (hI.2.2.2.2.1 i hi) h0
  by_cases hx : x2 = 1
  · simp only [if_pos hx]
    exact key 9999 (by rw [if_pos hx])
  · simp only [if_neg hx]
    exact key 0 (by rw [if_neg hx])
