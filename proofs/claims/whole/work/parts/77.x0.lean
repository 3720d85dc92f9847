/-! the units of a message, one behind another -/
def sR (n : Nat) (t : TT) : Nat → TT → Nat → Nat → (Nat → TT) → Nat → TT × Nat
  | 0, T, _, _, _, d => (T, d)
  | r + 1, T, i, b, W, d => if (uF n t T i b W).1 = 0 then (if ch n t (uF n t T i b W).2.2.1 = 59 then sR n t r (uF n t T i b W).2.1 ((uF n t T i b W).2.2.1 + 1) (uF n t T i b W).2.2.2.1 (uF n t T i b W).2.2.2.2 (d + 1) else ((uF n t T i b W).2.1, d + 1)) else (tFault T (uF n t T i b W).1, d)
theorem sR_eq {n : Nat} {t T T' : TT} {r i b z b' d : Nat} {W W' : Nat → TT} {f : Int32} (hU : uF n t T i b W = (f, T', z, b', W')) : sR n t (r + 1) T i b W d = if f = 0 then (if ch n t z = 59 then sR n t r T' (z + 1) b' W' (d + 1) else (T', d + 1)) else (tFault T f, d) := by
  show (if (uF n t T i b W).1 = 0 then (if ch n t (uF n t T i b W).2.2.1 = 59 then sR n t r (uF n t T i b W).2.1 ((uF n t T i b W).2.2.1 + 1) (uF n t T i b W).2.2.2.1 (uF n t T i b W).2.2.2.2 (d + 1) else ((uF n t T i b W).2.1, d + 1)) else (tFault T (uF n t T i b W).1, d)) = _
  rw [hU]
theorem sR_kp {n : Nat} {t : TT} (hn : n ≤ 100) : ∀ r T i b W d, i ≤ n → b ≤ 5 → WI n W b → IT T → KP T (sR n t r T i b W d).1 := by
  intro r
  induction r with
  | zero => intro T i b W d _ _ _ hI; exact KP.rf hI
  | succ r ih =>
    intro T i b W d hi hb hw hI
    obtain ⟨f, T', z, b', W', hU⟩ : ∃ f T' z b' W', uF n t T i b W = (f, T', z, b', W') := ⟨_, _, _, _, _, rfl⟩
    obtain ⟨u1, u2⟩ := uF_facts hn hi hb hw hI hU
    rw [sR_eq hU]
    by_cases h0 : f = 0
    · obtain ⟨p1, p2, p3, p4, p5, p6⟩ := u2 h0
      rw [if_pos h0]
      by_cases h59 : ch n t z = 59
      · have hz := ch_pos (n := n) (t := t) (i := z) (by rw [h59]; decide)
        rw [if_pos h59]
        exact p6.tr (ih T' (z + 1) b' W' (d + 1) (by omega) p4 p5 (p6.it hI))
      · rw [if_neg h59]
        exact p6
    · rw [if_neg h0]
      exact KP_fault hI f
theorem c_loop {n N : Nat} {t : TT} (hN : 200 ≤ N) : ∀ r fu m T i b W d k, r < fu → n + 1 ≤ i + r → k ≤ i → i ≤ n → b ≤ 5 → IT T → WI n W b → CU m n t T i b W → ∃ m', f_X8_sends_22 N fu m (nI d) (nI k) = some (m', nI (sR n t r T i b W d).2) ∧ RSt m' 43 (sR n t r T i b W d).1 ∧ HF m m' := by
  intro r
  induction r with
  | zero => intro fu m T i b W d k _ h1 _ h2; omega
  | succ r ih =>
    intro fu m T i b W d k hf hr hk hi hb hI hw h
    obtain ⟨fu, rfl⟩ : ∃ x, fu = x + 1 := ⟨fu - 1, by omega⟩
    have tc := h.1
    have hn := tc.2.2
    obtain ⟨f, T', z, b', W', hU⟩ : ∃ f T' z b' W', uF n t T i b W = (f, T', z, b', W') := ⟨_, _, _, _, _, rfl⟩
    obtain ⟨u1, u2⟩ := uF_facts hn hi hb hw hI hU
    rw [sR_eq hU]
    show ∃ m', f_X8_sends_22b N (f_X8_sends_22 N fu) m (nI d) (nI k) = _ ∧ _
    obtain ⟨m1, a1, a2, a3, a4⟩ := c_unit1 (R := f_X8_sends_22 N fu) (x1 := nI d) hN hI hi hb hw (show k ≤ 100 by omega) h hU
    rw [a1]
    unfold f_X8_sends_67
    by_cases h0 : f = 0
    · obtain ⟨p1, p2, p3, p4, p5, p6⟩ := u2 h0
      obtain ⟨b1, b2, b3⟩ := a4 h0
      rw [if_pos h0, if_pos h0]
      unfold f_X6_passSemicolon
      have tc1 := a3.tc tc
      rw [b1, c_byteAt tc1 (by omega), bm_some]
      by_cases h59 : ch n t z = 59
      · have hz := ch_pos (n := n) (t := t) (i := z) (by rw [h59]; decide)
        rw [if_pos h59, if_pos h59, lm_def, bm_some, if_neg (show ¬ (1 : Int32) = 0 by decide), b1, nI_1, nI_1, nI_1]
        have hf2 : HF m (up m1 38 1 (nI (z + 1))) := a3.tr (fun k _ _ hk => up_ne (by omega))
        have cu : CU (up m1 38 1 (nI (z + 1))) n t T' (z + 1) b' W' := ⟨hf2.tc tc, a2.fr (fun c hc => up_ne (by omega)), (hf2.nd h.2.2.1).of p6.1, by simp [up], by simp [up, b2], fun s j hs hj => by rw [up_ne (by omega)]; exact b3 s j hs hj⟩
        obtain ⟨m2, c1, c2, c3⟩ := ih fu (up m1 38 1 (nI (z + 1))) T' (z + 1) b' W' (d + 1) (k + 1) (by omega) (by omega) (by omega) (by omega) p4 (p6.it hI) p5 cu
        exact ⟨m2, c1, c2, hf2.tr c3⟩
      · rw [if_neg h59, if_neg h59, bm_some, if_pos rfl, nI_1]
        exact ⟨m1, rfl, a2, a3⟩
    · rw [if_neg h0, if_neg h0]
      rw [(u1 h0).1] at a2
      obtain ⟨m2, c1, c2, c3⟩ := c_raise m1 T f a2 hI.2.2.2.1
      rw [c1, bm_some]
      exact ⟨m2, rfl, c2, a3.tr (fun k h1 h2 h3 => c3 k (by omega))⟩
theorem m_loop {n N : Nat} {t : TT} (hN : 200 + MM 17 ≤ N) : ∀ r fu m T i b W d, r + 1 < fu → n + 1 ≤ i + r → i ≤ n → b ≤ 5 → IT T → WI n W b → MU m n t T i b W → ∃ m', f_X9_sends_18 N fu m (nI d) 1 = bm (f_X9_push N m') (fun m1 _ => some (m1, nI (sR n t r T i b W d).2)) ∧ m' 112 = (sR n t r T i b W d).1 ∧ NF m m' := by
  intro r
  induction r with
  | zero => intro fu m T i b W d _ h1 h2; omega
  | succ r ih =>
    intro fu m T i b W d hf hr hi hb hI hw h
    obtain ⟨fu, rfl⟩ : ∃ x, fu = x + 1 := ⟨fu - 1, by omega⟩
    have tm := h.1
    have hn := tm.2.2
    obtain ⟨f, T', z, b', W', hU⟩ : ∃ f T' z b' W', uF n t T i b W = (f, T', z, b', W') := ⟨_, _, _, _, _, rfl⟩
    obtain ⟨u1, u2⟩ := uF_facts hn hi hb hw hI hU
    rw [sR_eq hU]
    show ∃ m', f_X9_sends_18b N (f_X9_sends_18 N fu) m (nI d) 1 = _ ∧ _
    unfold f_X9_sends_18b
    rw [if_neg (show ¬ (1 : Int32) = 0 by decide)]
    obtain ⟨m1, rr, a1, a2, a3⟩ := m_unit1 hN hI hi hb hw h hU
    rw [a1, bm_some]
    have stop : ∀ (M : Mem) (x : Int32), f_X9_sends_18 N fu M x 0 = bm (f_X9_push N M) (fun m1 _ => some (m1, x)) := by
      intro M x
      obtain ⟨fv, rfl⟩ : ∃ y, fu = y + 1 := ⟨fu - 1, by omega⟩
      show f_X9_sends_18b N (f_X9_sends_18 N fv) M x 0 = _
      unfold f_X9_sends_18b
      rw [if_pos rfl]
    rcases a3 with ⟨h0, rfl, b1⟩ | ⟨h0, b1, b2, b3, b4⟩
    · have hq := (u1 h0).2
      rw [if_neg h0, if_neg h0, m_addFault m1 rr (by rw [b1]; exact hI.2.2.2.1), bm_some, b1]
      unfold f_X9_sends_36 f_X9_sends_52 f_X9_sends_63 f_X9_sends_82 f_X9_sends_83
      rw [if_neg h0, if_neg hq, if_pos rfl, if_pos rfl, lm_def, stop, show nI d + (0 : Int32) = nI d by grind]
      refine ⟨_, rfl, ?_, (a2.tr NF.s).tr (NF.u (by decide))⟩
      rw [up_ne (by decide), setC_at]
    · obtain ⟨p1, p2, p3, p4, p5, p6⟩ := u2 h0
      rw [if_pos h0]
      have go : ∀ M : Mem, NF m M → M 112 = T' → M 111 16 = nI z → M 111 22 = nI b' → (∀ s j, s < 3 → j < b' → M (117 + s) j = W' s j) → ∃ m', f_X9_sends_47 N (f_X9_sends_18 N fu) M (nI d) = bm (f_X9_push N m') (fun m1 _ => some (m1, nI (if ch n t z = 59 then sR n t r T' (z + 1) b' W' (d + 1) else (T', d + 1)).2)) ∧ m' 112 = (if ch n t z = 59 then sR n t r T' (z + 1) b' W' (d + 1) else (T', d + 1)).1 ∧ NF m m' := by
        intro M nf g1 g2 g3 g4
        unfold f_X9_sends_47 f_X9_sends_52 f_X9_sends_63 f_X9_sends_82 f_X9_sends_83
        have tM := nf.tm tm
        rw [if_neg (show ¬ (1 : Int32) = 0 by decide), if_neg (show ¬ (1 : Int32) = 0 by decide), m_here tM g2 (by omega), bm_some, lm_def, lm_def, g2, nI_1, nI_1]
        have nf2 : NF m (up M 111 16 (nI (z + 1))) := nf.tr (NF.u (by decide))
        by_cases h59 : ch n t z = 59
        · have hz := ch_pos (n := n) (t := t) (i := z) (by rw [h59]; decide)
          rw [if_pos h59, if_pos h59]
          have mu : MU (up M 111 16 (nI (z + 1))) n t T' (z + 1) b' W' := ⟨nf2.tm tm, by rw [up_ne (by decide), g1], by simp [up], by simp [up, g3], fun s j hs hj => by rw [up_ne (by omega)]; exact g4 s j hs hj⟩
          obtain ⟨m2, c1, c2, c3⟩ := ih fu (up M 111 16 (nI (z + 1))) T' (z + 1) b' W' (d + 1) (by omega) (by omega) (by omega) p4 (p6.it hI) p5 mu
          exact ⟨m2, c1, c2, nf2.tr c3⟩
        · rw [if_neg h59, if_neg h59, stop]
          exact ⟨_, rfl, by rw [up_ne (by decide), g1], nf2⟩
      rcases b1 with ⟨rfl, c1⟩ | ⟨rfl, c1, c2⟩
      · rw [if_pos rfl]
        unfold f_X9_sends_36
        rw [if_pos rfl]
        exact go m1 a2 c1 b2 b3 b4
      · rw [if_neg (show ¬ (-222 : Int32) = 0 by decide), m_addFault m1 (-222) (by rw [c1]; exact hI.2.2.2.1), bm_some, c1, ← c2]
        unfold f_X9_sends_36
        rw [if_neg (show ¬ (-222 : Int32) = 0 by decide), if_pos rfl]
        exact go (setC m1 112 T') (a2.tr NF.s) setC_at (by rw [setC_ne (by decide), b2]) (by rw [setC_ne (by decide), b3]) (fun s j hs hj => by rw [setC_ne (by omega)]; exact b4 s j hs hj)
