/-! rows of words, as the model reads them -/
def WM (m : Mem) (c : Nat) (W : Nat → TT) : Prop := m 111 10 = nI c ∧ ∀ s j, s < 3 → j < c → m (117 + s) j = W s j
def WF (m m' : Mem) : Prop := (∀ k, k ≠ 111 → (k < 117 ∨ 119 < k) → m' k = m k) ∧ ∀ j, j ≠ 10 → j ≠ 16 → m' 111 j = m 111 j
theorem WF.rf {m : Mem} : WF m m := ⟨fun _ _ _ => rfl, fun _ _ _ => rfl⟩
theorem WF.tr {a b c : Mem} (h : WF a b) (g : WF b c) : WF a c := ⟨fun k h1 h2 => (g.1 k h1 h2).trans (h.1 k h1 h2), fun j h1 h2 => (g.2 j h1 h2).trans (h.2 j h1 h2)⟩
theorem WF.tm {m m' : Mem} {n : Nat} {t : TT} (f : WF m m') (h : TM m n t) : TM m' n t := by
  unfold TM
  rw [f.2 6 (by decide) (by decide), f.1 116 (by decide) (by decide)]
  exact h
theorem WF.u {m : Mem} {j : Nat} {v : Int32} (hj : j = 10 ∨ j = 16) : WF m (up m 111 j v) := ⟨fun k hk _ => up_ne hk, fun i h1 h2 => by simp only [up]; rw [if_neg (by omega)]⟩
theorem WF.w {m : Mem} {c j : Nat} {v : Int32} (hc : 117 ≤ c ∧ c ≤ 119) : WF m (up m c j v) := ⟨fun k hk h => up_ne (by omega), fun i h1 h2 => by rw [up_ne (by omega)]⟩
theorem m_here {m : Mem} {n : Nat} {t : TT} (h : TM m n t) {i : Nat} (hp : m 111 16 = nI i) (hi : i < 1000) : f_X9_here m = some (m, ch n t i) := by
  obtain ⟨h1, h2, h3⟩ := h
  unfold f_X9_here ch
  rw [h1, hp]
  by_cases hl : i < n
  · rw [if_neg (nI_ge hl (by omega)), gd_of (inR_nI (by omega) (by decide)), ix_nI (by omega), if_pos hl, h2 i hl]
  · rw [if_pos (nI_le (by omega) (by omega)), if_neg hl]
theorem m_isFigure {m : Mem} {n : Nat} {t : TT} (h : TM m n t) {i : Nat} (hp : m 111 16 = nI i) (hi : i < 1000) : f_X9_isFigure m = some (m, if isFig (ch n t i) = true then 1 else 0) := by
  unfold f_X9_isFigure isFig
  rw [m_here h hp hi, bm_some, m_in, bm_some, gd_of isB01]
  simp only [decide_eq_true_eq]
theorem up_self {m : Mem} {c j : Nat} {v : Int32} (h : m c j = v) : up m c j v = m := by
  funext a b
  simp only [up]
  grind
theorem up_up {m : Mem} {c j : Nat} {v w : Int32} : up (up m c j v) c j w = up m c j w := by
  funext a b
  simp only [up]
  grind
theorem TM.p {m : Mem} {n : Nat} {t : TT} (h : TM m n t) (v : Int32) : TM (up m 111 16 v) n t := (WF.u (by omega)).tm h
theorem m_blanks {m : Mem} {n : Nat} {t : TT} (h : TM m n t) {N : Nat} (hN : 200 ≤ N) {i : Nat} (hp : m 111 16 = nI i) (hi : i < 1000) : f_X9_blanks N m = some (up m 111 16 (nI (sk isBlk n t i)), ()) := by
  have hn := h.2.2
  unfold f_X9_blanks
  have g := sk_loop (Q := isBlk) (n := n) (t := t) (fun f x => f_X9_blanks_0 N f (up m 111 16 x)) (fun i => some (up m 111 16 (nI i), ())) (fun f i h1 h2 => ?_) (fun f i h1 h2 => ?_) (by omega) (n - i) i N rfl (by omega) hi
  · simp only [up_self hp] at g
    exact g
  · show f_X9_blanks_0b N (f_X9_blanks_0 N f) (up m 111 16 (nI i)) = _
    unfold f_X9_blanks_0b
    have e : up m 111 16 (nI i) 111 16 = nI i := by simp [up]
    rw [m_here (h.p _) e (by omega), bm_some, show ch n t i = t i from if_pos h1, if_pos (by unfold isBlk at h2; simpa using h2), lm_def, e, nI_1, up_up]
  · show f_X9_blanks_0b N (f_X9_blanks_0 N f) (up m 111 16 (nI i)) = _
    unfold f_X9_blanks_0b
    have e : up m 111 16 (nI i) 111 16 = nI i := by simp [up]
    rw [m_here (h.p _) e (by omega), bm_some]
    by_cases hl : i < n
    · rw [show ch n t i = t i from if_pos hl, if_neg (by have := h2 hl; unfold isBlk at this; simpa using this)]
    · rw [show ch n t i = -1 from if_neg hl, if_neg (by decide)]
theorem m_isWord {m : Mem} {n : Nat} {t : TT} (h : TM m n t) {N : Nat} (hN : 200 ≤ N) {i c : Nat} {W : Nat → TT} (hp : m 111 16 = nI i) (hi : i ≤ n) (hw : WM m c W) (hc : c ≤ 6) : (wOk n t i ∧ isFig (ch n t (wNx n t i)) = false ∧ ∃ m', f_X9_isWord N m = some (m', 1) ∧ m' 111 16 = nI (wNx n t i) ∧ WM m' (c + 1) (upW W n t c i) ∧ WF m m') ∨ (¬ (wOk n t i ∧ isFig (ch n t (wNx n t i)) = false) ∧ ∃ m', f_X9_isWord N m = some (m', 0) ∧ WF m m') := by
  have hn := h.2.2
  obtain ⟨k1, k2, k3, k4⟩ := sk_all isLet n t i
  unfold f_X9_isWord
  rw [hw.1, gd_of (inR_nI (by omega) (by decide)), ix_nI (by omega), lm_def, hp]
  have w1 : WF m (up m 117 c (nI i)) := WF.w (by omega)
  have t1 := w1.tm h
  have p1 : up m 117 c (nI i) 111 16 = nI i := by rw [up_ne (by decide), hp]
  have g := sk_loop (Q := isLet) (n := n) (t := t) (fun f x => f_X9_isWord_13 N f (up (up m 117 c (nI i)) 111 16 x)) (fun e => f_X9_isWord_13b N (fun _ => none) (up (up m 117 c (nI i)) 111 16 (nI e))) (fun f i h1 h2 => ?_) (fun f i h1 h2 => ?_) (by omega) (n - i) i N rfl (by omega) (by omega)
  · simp only [up_self p1] at g
    rw [show f_X9_isWord_13 N N (up m 117 c (nI i)) = _ from g]
    clear g
    have eW : wE n t i = sk isLet n t i := rfl
    generalize he : sk isLet n t i = e at *
    have t2 := t1.p (nI e)
    have pe : up (up m 117 c (nI i)) 111 16 (nI e) 111 16 = nI e := by simp [up]
    have c10 : up (up m 117 c (nI i)) 111 16 (nI e) 111 10 = nI c := by simp [up, hw.1]
    have c117 : up (up m 117 c (nI i)) 111 16 (nI e) 117 c = nI i := by simp [up]
    have w2 : WF m (up (up m 117 c (nI i)) 111 16 (nI e)) := w1.tr (WF.u (by omega))
    have hnl : isLet (ch n t e) = false := by
      by_cases hl : e < n
      · rw [show ch n t e = t e from if_pos hl]; exact k4 hl
      · rw [show ch n t e = -1 from if_neg hl]; decide
    have old : ∀ s j, s < 3 → j < c → up (up m 117 c (nI i)) 111 16 (nI e) (117 + s) j = W s j := by
      intro s j hs hj
      rw [up_ne (by omega)]
      have := hw.2 s j hs hj
      grind [up]
    unfold f_X9_isWord_13b
    rw [m_here t2 pe (by omega), bm_some, m_isLetter, bm_some, if01, hnl, if_neg (by decide), c10, gd_of (inR_nI (by omega) (by decide)), gd_of (inR_nI (by omega) (by decide)), ix_nI (by omega), pe, c117, pk_sub k1, lm_def]
    generalize hg2 : up (up m 117 c (nI i)) 111 16 (nI e) = m2 at *
    have c10' : up m2 118 c (nI (e - i)) 111 10 = nI c := by rw [up_ne (by decide), c10]
    rw [c10', gd_of (inR_nI (by omega) (by decide)), ix_nI (by omega), lm_def]
    generalize hg4 : up (up m2 118 c (nI (e - i))) 119 c 0 = m4
    have w4 : WF m m4 := by rw [← hg4]; exact (w2.tr (WF.w (by omega))).tr (WF.w (by omega))
    have t4 := w4.tm h
    have p4 : m4 111 16 = nI e := by rw [← hg4, up_ne (by decide), up_ne (by decide), pe]
    have q4 : m4 111 10 = nI c := by rw [← hg4, up_ne (by decide), up_ne (by decide), c10]
    have a117 : m4 117 c = nI i := by rw [← hg4, up_ne (by decide), up_ne (by decide), c117]
    have a118 : m4 118 c = nI (e - i) := by rw [← hg4]; simp [up]
    have a119 : m4 119 c = 0 := by rw [← hg4]; simp [up]
    have old4 : ∀ s j, s < 3 → j < c → m4 (117 + s) j = W s j := by
      intro s j hs hj
      rw [← hg4]
      have := old s j hs hj
      rcases (show s = 0 ∨ s = 1 ∨ s = 2 by omega) with e | e | e <;> subst e <;> grind [up]
    rw [q4, gd_of (inR_nI (by omega) (by decide)), ix_nI (by omega), a118, m_in, bm_some, if01]
    by_cases ho : wOk n t i
    · have hl := wOk_lt ho
      rw [if_pos (show (1 : Int32) ≤ nI (e - i) ∧ nI (e - i) ≤ 8 from ⟨nI_le (a := 1) (by have := ho.1; omega) (by omega), nI_le (b := 8) (by have := ho.2; omega) (by decide)⟩), m_isFigure t4 p4 (by omega), bm_some, if01]
      have fin : ∀ (M : Mem) (b : Int32), isB b = true → WF m M → ∀ e2, M 111 16 = nI e2 → M 111 10 = nI c → ∃ m', f_X9_isWord_167 N M b = some (m', b) ∧ m' 111 16 = nI e2 ∧ m' 111 10 = nI (c + 1) ∧ (∀ k, k ≠ 111 → m' k = M k) ∧ WF m m' := by
        intro M b hb wf e2 hM hM2
        unfold f_X9_isWord_167
        rw [lm_def, gd_of hb, hM2, nI_1]
        exact ⟨_, rfl, by simp [up, hM], by simp [up], fun k hk => up_ne hk, wf.tr (WF.u (by omega))⟩
      by_cases hf : isFig (ch n t e) = true
      · have hlt : e < n := ch_pos (n := n) (t := t) (i := e) (by unfold isFig at hf; grind)
        rw [if_pos hf, m_here t4 p4 (by omega), bm_some, q4, gd_of (inR_nI (by omega) (by decide)), ix_nI (by omega), lm_def, lm_def]
        have p5 : up m4 119 c (ch n t e - 48) 111 16 = nI e := by rw [up_ne (by decide), p4]
        rw [p5, nI_1]
        generalize hg5 : up (up m4 119 c (ch n t e - 48)) 111 16 (nI (e + 1)) = m5
        have w5 : WF m m5 := by rw [← hg5]; exact (w4.tr (WF.w (by omega))).tr (WF.u (by omega))
        have t5 := w5.tm h
        have p5' : m5 111 16 = nI (e + 1) := by rw [← hg5]; simp [up]
        have q5 : m5 111 10 = nI c := by rw [← hg5]; simp [up, q4]
        have b119 : m5 119 c = ch n t e - 48 := by rw [← hg5]; simp [up]
        have b118 : m5 118 c = nI (e - i) := by rw [← hg5]; simp [up, a118]
        have b117 : m5 117 c = nI i := by rw [← hg5]; simp [up, a117]
        have old5 : ∀ s j, s < 3 → j < c → m5 (117 + s) j = W s j := by
          intro s j hs hj
          rw [← hg5]
          have := old4 s j hs hj
          rcases (show s = 0 ∨ s = 1 ∨ s = 2 by omega) with e | e | e <;> subst e <;> grind [up]
        unfold f_X9_isWord_122
        rw [m_isFigure t5 p5' (by omega), bm_some, if01]
        by_cases hd : 49 ≤ ch n t (wE n t i) ∧ ch n t (wE n t i) ≤ 57
        · have en : wNx n t i = e + 1 := by unfold wNx; rw [if_pos hd, eW]
          rw [en]
          by_cases hf2 : isFig (ch n t (e + 1)) = true
          · right
            rw [if_pos hf2]
            refine ⟨fun q => by rw [hf2] at q; simp at q, ?_⟩
            obtain ⟨m', r1, r2, r3, r4, r5⟩ := fin m5 0 rfl w5 _ p5' q5
            exact ⟨m', r1, r5⟩
          · left
            rw [if_neg hf2, q5, gd_of (inR_nI (by omega) (by decide)), ix_nI (by omega), b119, if_pos (by rw [eW] at hd; grind)]
            refine ⟨ho, by simpa using hf2, ?_⟩
            obtain ⟨m', r1, r2, r3, r4, r5⟩ := fin m5 1 rfl w5 _ p5' q5
            refine ⟨m', r1, r2, ⟨r3, fun s j hs hj => ?_⟩, r5⟩
            rw [r4 _ (by omega)]
            unfold upW wFig
            rw [if_pos hd, eW]
            by_cases hjc : j = c
            · subst hjc
              rw [if_pos rfl]
              rcases (show s = 0 ∨ s = 1 ∨ s = 2 by omega) with e | e | e <;> subst e
              · exact b117
              · exact b118
              · exact b119
            · rw [if_neg hjc]
              exact old5 s j hs (by omega)
        · have en : wNx n t i = e := by unfold wNx; rw [if_neg hd, eW]
          right
          rw [en]
          refine ⟨fun q => by rw [hf] at q; simp at q, ?_⟩
          by_cases hf2 : isFig (ch n t (e + 1)) = true
          · rw [if_pos hf2]
            obtain ⟨m', r1, r2, r3, r4, r5⟩ := fin m5 0 rfl w5 _ p5' q5
            exact ⟨m', r1, r5⟩
          · have h48 : ch n t e = 48 := by
              rw [eW] at hd
              unfold isFig at hf
              grind
            have e1 : nI (e + 1) - 1 = nI e := by rw [show (1 : Int32) = nI 1 from rfl, pk_sub (by omega)]; rfl
            have e116 : m5 116 e = 48 := by
              rw [t5.2.1 e hlt]
              rw [show ch n t e = t e from if_pos hlt] at h48
              exact h48
            rw [if_neg hf2, q5, gd_of (inR_nI (by omega) (by decide)), ix_nI (by omega), b119, h48, if_neg (by decide), p5', e1, gd_of (inR_nI (by omega) (by decide)), ix_nI (by omega), e116, m_in, bm_some, if01, if_pos (by decide)]
            obtain ⟨m', r1, r2, r3, r4, r5⟩ := fin m5 0 rfl w5 _ p5' q5
            exact ⟨m', r1, r5⟩
      · left
        have hd : ¬ (49 ≤ ch n t (wE n t i) ∧ ch n t (wE n t i) ≤ 57) := by
          rw [eW]
          unfold isFig at hf
          grind
        have en : wNx n t i = e := by unfold wNx; rw [if_neg hd, eW]
        rw [if_neg hf, en]
        refine ⟨ho, by simpa using hf, ?_⟩
        unfold f_X9_isWord_122
        have e1 : nI e - 1 = nI (e - 1) := by rw [show (1 : Int32) = nI 1 from rfl, pk_sub (by omega)]
        have hle := k3 (e - 1) (by omega) (by omega)
        have e116 : m4 116 (e - 1) = t (e - 1) := t4.2.1 _ hle.1
        rw [m_isFigure t4 p4 (by omega), bm_some, if01, if_neg hf, q4, gd_of (inR_nI (by omega) (by decide)), ix_nI (by omega), a119, if_neg (by decide), p4, e1, gd_of (inR_nI (by omega) (by decide)), ix_nI (by omega), e116, m_in, bm_some, if01, if_neg (by have := hle.2; unfold isLet at this; grind)]
        obtain ⟨m', r1, r2, r3, r4, r5⟩ := fin m4 1 rfl w4 _ p4 q4
        refine ⟨m', r1, r2, ⟨r3, fun s j hs hj => ?_⟩, r5⟩
        rw [r4 _ (by omega)]
        unfold upW wFig
        rw [if_neg hd, eW]
        by_cases hjc : j = c
        · subst hjc
          rw [if_pos rfl]
          rcases (show s = 0 ∨ s = 1 ∨ s = 2 by omega) with e | e | e <;> subst e
          · exact a117
          · exact a118
          · exact a119
        · rw [if_neg hjc]
          exact old4 s j hs (by omega)
    · right
      refine ⟨fun q => ho q.1, ?_⟩
      rw [if_neg (fun q => ho ⟨(nI_leI (a := 1) (by omega) (by omega)).mp (by rw [eW]; exact q.1), (nI_leI (b := 8) (by omega) (by omega)).mp (by rw [eW]; exact q.2)⟩)]
      exact ⟨m4, rfl, w4⟩
  · show f_X9_isWord_13b N (f_X9_isWord_13 N f) (up (up m 117 c (nI _)) 111 16 (nI i)) = _
    unfold f_X9_isWord_13b
    have e : ∀ z, up (up m 117 c (nI z)) 111 16 (nI i) 111 16 = nI i := fun z => by simp [up]
    rw [m_here (t1.p _) (e _) (by omega), bm_some, m_isLetter, bm_some, if01, show ch n t i = t i from if_pos h1, if_pos h2, lm_def, e, nI_1, up_up]
  · show f_X9_isWord_13b N (f_X9_isWord_13 N f) (up (up m 117 c (nI _)) 111 16 (nI i)) = f_X9_isWord_13b N (fun _ => none) _
    unfold f_X9_isWord_13b
    have e : ∀ z, up (up m 117 c (nI z)) 111 16 (nI i) 111 16 = nI i := fun z => by simp [up]
    have hnl : isLet (ch n t i) = false := by
      by_cases hl : i < n
      · rw [show ch n t i = t i from if_pos hl]; exact h2 hl
      · rw [show ch n t i = -1 from if_neg hl]; decide
    rw [m_here (t1.p _) (e _) (by omega), bm_some, m_isLetter, bm_some, if01, hnl, if_neg (by decide), bm_some, m_isLetter, bm_some, if01, hnl, if_neg (by decide)]
