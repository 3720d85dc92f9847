theorem m_aw0 {N : Nat} (f : Nat) (m : Mem) (x : Int32) : f_X9_areWords_27 N (f + 1) m x 0 = some (m, 0) := by
  show f_X9_areWords_27b N (f_X9_areWords_27 N f) m x 0 = _
  unfold f_X9_areWords_27b
  rw [if_pos rfl, gd_of (show isB 0 = true from rfl)]
theorem m_aw7 {n : Nat} {t : TT} {N : Nat} (f : Nat) (hf : 2 ≤ f) (m : Mem) (h : TM m n t) {e c0 : Nat} (hp : m 111 16 = nI e) (he : e ≤ n) (hc : m 111 10 = nI 7) (h0 : c0 ≤ 6) (h3 : 3 ≤ c0) : ∃ m' b, f_X9_areWords_27 N f m (nI c0) 1 = some (m', b2i b) ∧ (b = true → m' 111 10 = nI 7 ∧ 3 ≤ c0) ∧ WF m m' := by
  have hn := h.2.2
  obtain ⟨f, rfl⟩ : ∃ k, f = k + 2 := ⟨f - 2, by omega⟩
  show ∃ m' b, f_X9_areWords_27b N (f_X9_areWords_27 N (f + 1)) m (nI c0) 1 = some (m', b2i b) ∧ _
  unfold f_X9_areWords_27b f_X9_areWords_80 f_X9_areWords_81
  rw [if_neg (by decide), m_here h hp (by omega), bm_some]
  by_cases h58 : ch n t e = 58
  · rw [if_pos h58, lm_def, m_aw0]
    have e7 : ∀ v, up m 111 16 v 111 10 = nI 7 := fun v => by simp [up, hc]
    rw [e7, if_pos (show (7 : Int32) ≤ nI 7 by decide)]
    refine ⟨up m 111 16 (m 111 16 + 1), false, ?_, fun q => by simp at q, WF.u (by omega)⟩
    split <;> rfl
  · rw [if_neg h58, gd_of (show isB 1 = true from rfl)]
    exact ⟨m, true, rfl, fun _ => ⟨hc, h3⟩, WF.rf⟩
theorem m_aw {n : Nat} {t : TT} {N : Nat} (hN : 200 ≤ N) : ∀ r f m e c W c0, r ≤ 3 → r + 5 ≤ f → TM m n t → m 111 16 = nI e → e ≤ n → isFig (ch n t e) = false → WM m c W → c ≤ 6 → c0 + 4 = c + r → (∃ e' c' W' m', tailR n t r e c W = some (e', c', W') ∧ isFig (ch n t e') = false ∧ f_X9_areWords_27 N f m (nI c0) 1 = some (m', 1) ∧ m' 111 16 = nI e' ∧ WM m' c' W' ∧ WF m m') ∨ ((∀ e' c' W', tailR n t r e c W = some (e', c', W') → isFig (ch n t e') = true) ∧ ∃ m' b, f_X9_areWords_27 N f m (nI c0) 1 = some (m', b2i b) ∧ (b = true → m' 111 10 = nI 7 ∧ 3 ≤ c0) ∧ WF m m') := by
  intro r
  induction r with
  | zero =>
    intro f m e c W c0 hr hf h hp he hfig hw hc h0
    obtain ⟨f, rfl⟩ : ∃ k, f = k + 2 := ⟨f - 2, by omega⟩
    have hn := h.2.2
    show (∃ e' c' W' m', _ ∧ _ ∧ f_X9_areWords_27b N (f_X9_areWords_27 N (f + 1)) m (nI c0) 1 = some (m', 1) ∧ _) ∨ (_ ∧ ∃ m' b, f_X9_areWords_27b N (f_X9_areWords_27 N (f + 1)) m (nI c0) 1 = some (m', b2i b) ∧ _)
    unfold f_X9_areWords_27b f_X9_areWords_80 f_X9_areWords_81 tailR
    rw [if_neg (show ¬ (1 : Int32) = 0 by decide), m_here h hp (by omega), bm_some]
    by_cases h58 : ch n t e = 58
    · right
      rw [if_pos h58, if_pos h58, lm_def, m_aw0]
      have e10 : ∀ v, up m 111 16 v 111 10 = nI c := fun v => by simp [up, hw.1]
      rw [e10, pk_sub (by omega), if_pos (show (4 : Int32) ≤ nI (c - c0) from nI_le (a := 4) (by omega) (by omega))]
      exact ⟨fun _ _ _ q => by simp at q, _, false, rfl, fun q => by simp at q, WF.u (by omega)⟩
    · left
      rw [if_neg h58, if_neg h58, gd_of (show isB 1 = true from rfl)]
      exact ⟨e, c, W, m, rfl, hfig, rfl, hp, hw, WF.rf⟩
  | succ r ih =>
    intro f m e c W c0 hr hf h hp he hfig hw hc h0
    obtain ⟨f, rfl⟩ : ∃ k, f = k + 2 := ⟨f - 2, by omega⟩
    have hn := h.2.2
    show (∃ e' c' W' m', _ ∧ _ ∧ f_X9_areWords_27b N (f_X9_areWords_27 N (f + 1)) m (nI c0) 1 = some (m', 1) ∧ _) ∨ (_ ∧ ∃ m' b, f_X9_areWords_27b N (f_X9_areWords_27 N (f + 1)) m (nI c0) 1 = some (m', b2i b) ∧ _)
    unfold f_X9_areWords_27b f_X9_areWords_80 f_X9_areWords_81 tailR
    rw [if_neg (show ¬ (1 : Int32) = 0 by decide), m_here h hp (by omega), bm_some]
    by_cases h58 : ch n t e = 58
    · have hlt := ch_pos (n := n) (t := t) (i := e) (by rw [h58]; decide)
      simp only [if_pos h58, lm_def, m_aw0]
      have e10 : ∀ v, up m 111 16 v 111 10 = nI c := fun v => by simp [up, hw.1]
      rw [hp, nI_1, e10, pk_sub (by omega), if_neg (show ¬ (4 : Int32) ≤ nI (c - c0) from nI_ge (b := 4) (by omega) (by omega)), if_neg (show ¬ (7 : Int32) ≤ nI c from nI_ge (b := 7) (by omega) (by decide))]
      have w1 : WF m (up m 111 16 (nI (e + 1))) := WF.u (by omega)
      have t1 := w1.tm h
      have p1 : up m 111 16 (nI (e + 1)) 111 16 = nI (e + 1) := by simp [up]
      have wm1 : WM (up m 111 16 (nI (e + 1))) c W := ⟨e10 _, fun s j hs hj => by rw [up_ne (by omega)]; exact hw.2 s j hs hj⟩
      rcases m_isWord t1 hN p1 (by omega) wm1 hc with ⟨a1, a2, m2, a3, a4, a5, a6⟩ | ⟨a1, m2, a3, a6⟩
      · have hl := wOk_lt a1
        have t2 := a6.tm t1
        rw [a3, bm_some, if_neg (show ¬ (1 : Int32) = 0 by decide)]
        by_cases hc6 : c < 6
        · rw [if_pos ⟨a1, hc6⟩]
          rcases ih (f + 1) m2 (wNx n t (e + 1)) (c + 1) (upW W n t c (e + 1)) c0 (by omega) (by omega) t2 a4 (by omega) a2 a5 (by omega) (by omega) with ⟨e', c', W', m', b1, b2, b3, b4, b5, b6⟩ | ⟨b1, m', b, b2, b3, b4⟩
          · left
            exact ⟨e', c', W', m', b1, b2, b3, b4, b5, (w1.tr a6).tr b6⟩
          · right
            exact ⟨b1, m', b, b2, b3, (w1.tr a6).tr b4⟩
        · right
          rw [if_neg (fun q => hc6 q.2)]
          refine ⟨fun _ _ _ q => by simp at q, ?_⟩
          have hc7 : m2 111 10 = nI 7 := by rw [a5.1, show c + 1 = 7 by omega]
          obtain ⟨m', b, b1, b2, b3⟩ := m_aw7 (N := N) (f + 1) (by omega) m2 t2 (c0 := c0) a4 (by omega) hc7 (by omega) (by omega)
          exact ⟨m', b, b1, b2, (w1.tr a6).tr b3⟩
      · right
        rw [a3, bm_some, if_pos (show (0 : Int32) = 0 from rfl)]
        refine ⟨fun e' c' W' q => ?_, m2, false, rfl, fun q => by simp at q, w1.tr a6⟩
        by_cases hq : wOk n t (e + 1) ∧ c < 6
        · rw [if_pos hq] at q
          have hfg : isFig (ch n t (wNx n t (e + 1))) = true := by
            by_cases hh : isFig (ch n t (wNx n t (e + 1))) = true
            · exact hh
            · exact absurd ⟨hq.1, by simpa using hh⟩ a1
          have hn58 : ¬ ch n t (wNx n t (e + 1)) = 58 := by
            intro h58
            rw [h58] at hfg
            exact absurd hfg (by decide)
          have : tailR n t r (wNx n t (e + 1)) (c + 1) (upW W n t c (e + 1)) = some (wNx n t (e + 1), c + 1, upW W n t c (e + 1)) := by
            cases r with
            | zero => unfold tailR; rw [if_neg hn58]
            | succ r => unfold tailR; rw [if_neg hn58]
          rw [this] at q
          simp only [Option.some.injEq, Prod.mk.injEq] at q
          rw [← q.1]
          exact hfg
        · rw [if_neg hq] at q
          simp at q
    · left
      rw [if_neg h58, if_neg h58, gd_of (show isB 1 = true from rfl)]
      exact ⟨e, c, W, m, rfl, hfig, rfl, hp, hw, WF.rf⟩
theorem m_areWords {m : Mem} {n : Nat} {t : TT} {N : Nat} (hN : 200 ≤ N) (h : TM m n t) {i c : Nat} {W : Nat → TT} (hp : m 111 16 = nI i) (hi : i ≤ n) (hw : WM m c W) (hc : c ≤ 5) : (∃ e' c' W' m', rowR n t 3 i c W = some (e', c', W') ∧ isFig (ch n t e') = false ∧ f_X9_areWords N m = some (m', 1) ∧ m' 111 16 = nI e' ∧ WM m' c' W' ∧ WF m m') ∨ ((∀ e' c' W', rowR n t 3 i c W = some (e', c', W') → isFig (ch n t e') = true) ∧ ∃ m' b, f_X9_areWords N m = some (m', b2i b) ∧ (b = true → m' 111 10 = nI 7 ∧ 3 ≤ c) ∧ WF m m') := by
  have hn := h.2.2
  unfold f_X9_areWords f_X9_areWords_25 f_X9_areWords_26 rowR
  rw [hw.1, if_neg (show ¬ (7 : Int32) ≤ nI c from nI_ge (b := 7) (by omega) (by decide))]
  rcases m_isWord h hN hp hi hw (by omega) with ⟨a1, a2, m2, a3, a4, a5, a6⟩ | ⟨a1, m2, a3, a6⟩
  · have hl := wOk_lt a1
    rw [a3, bm_some, if_neg (show ¬ (1 : Int32) = 0 by decide), if_pos ⟨a1, by omega⟩]
    rcases m_aw hN 3 N m2 (wNx n t i) (c + 1) (upW W n t c i) c (by omega) (by omega) (a6.tm h) a4 (by omega) a2 a5 (by omega) (by omega) with ⟨e', c', W', m', b1, b2, b3, b4, b5, b6⟩ | ⟨b1, m', b, b2, b3, b4⟩
    · left
      exact ⟨e', c', W', m', b1, b2, b3, b4, b5, a6.tr b6⟩
    · right
      exact ⟨b1, m', b, b2, b3, a6.tr b4⟩
  · right
    obtain ⟨N1, rfl⟩ : ∃ k, N = k + 1 := ⟨N - 1, by omega⟩
    rw [a3, bm_some, if_pos (show (0 : Int32) = 0 from rfl), m_aw0]
    refine ⟨fun e' c' W' q => ?_, m2, false, rfl, fun q => by simp at q, a6⟩
    by_cases hq : wOk n t i ∧ c < 6
    · rw [if_pos hq] at q
      have hfg : isFig (ch n t (wNx n t i)) = true := by
        by_cases hh : isFig (ch n t (wNx n t i)) = true
        · exact hh
        · exact absurd ⟨hq.1, by simpa using hh⟩ a1
      have hn58 : ¬ ch n t (wNx n t i) = 58 := by
        intro h58
        rw [h58] at hfg
        exact absurd hfg (by decide)
      unfold tailR at q
      rw [if_neg hn58] at q
      simp only [Option.some.injEq, Prod.mk.injEq] at q
      rw [← q.1]
      exact hfg
    · rw [if_neg hq] at q
      simp at q
