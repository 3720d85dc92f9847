/-! header and unit, as the model reads them -/
def cdF (n : Nat) (t : TT) (s : Nat) : Nat → Int32
  | 0 => 0
  | k + 1 => if 4 ≤ k then cdF n t s k else 32 * cdF n t s k + sml (ch n t (s + k)) - 97 + 1
theorem m_cw17 {n : Nat} {t : TT} {N : Nat} {s : Nat} : ∀ d f m k, n - (s + k) = d → d < f → TM m n t → m 111 16 = nI (s + k) → m 111 18 = cdF n t s k → s + k ≤ n + 1 → k ≤ 200 → ∃ m', f_X9_isCommonWord_17 N f m (nI k) = some (m', if 1 ≤ sk isLet n t (s + k) - s ∧ sk isLet n t (s + k) - s ≤ 8 then 1 else 0) ∧ m' 111 16 = nI (sk isLet n t (s + k)) ∧ m' 111 17 = 1 ∧ m' 111 18 = cdF n t s (sk isLet n t (s + k) - s) ∧ m' 111 10 = m 111 10 ∧ m' 111 20 = m 111 20 ∧ (∀ k, k ≠ 111 → m' k = m k) ∧ PF m m' := by
  intro d
  have stop : ∀ f m k, TM m n t → m 111 16 = nI (s + k) → m 111 18 = cdF n t s k → s + k ≤ n + 1 → k ≤ 200 → isLet (ch n t (s + k)) = false → sk isLet n t (s + k) = s + k → ∃ m', f_X9_isCommonWord_17 N (f + 1) m (nI k) = some (m', if 1 ≤ sk isLet n t (s + k) - s ∧ sk isLet n t (s + k) - s ≤ 8 then 1 else 0) ∧ m' 111 16 = nI (sk isLet n t (s + k)) ∧ m' 111 17 = 1 ∧ m' 111 18 = cdF n t s (sk isLet n t (s + k) - s) ∧ m' 111 10 = m 111 10 ∧ m' 111 20 = m 111 20 ∧ (∀ k, k ≠ 111 → m' k = m k) ∧ PF m m' := by
    intro f m k h hp h18 hl hk hq hs
    have hn := h.2.2
    rw [hs, show s + k - s = k by omega]
    show ∃ m', f_X9_isCommonWord_17b N (f_X9_isCommonWord_17 N f) m (nI k) = _ ∧ _
    unfold f_X9_isCommonWord_17b
    rw [m_here h hp (by omega), bm_some, m_isLetter, bm_some, if01, hq, if_neg (by decide), lm_def, m_in, bm_some, gd_of isB01]
    refine ⟨up m 111 17 1, ?_, by simp [up, hp], by simp [up], by simp [up, h18], by simp [up], by simp [up], fun k hk => up_ne hk, PF.u (by omega)⟩
    by_cases h8 : 1 ≤ k ∧ k ≤ 8
    · rw [if_pos h8, if_pos ⟨nI_le (a := 1) h8.1 (by omega), nI_le (b := 8) h8.2 (by decide)⟩]
    · rw [if_neg h8, if_neg (fun q => h8 ⟨(nI_leI (a := 1) (by omega) (by omega)).mp q.1, (nI_leI (b := 8) (by omega) (by omega)).mp q.2⟩)]
  induction d with
  | zero =>
    intro f m k h1 h2 h hp h18 hl hk
    obtain ⟨f, rfl⟩ : ∃ k, f = k + 1 := ⟨f - 1, by omega⟩
    exact stop f m k h hp h18 hl hk (by rw [show ch n t (s + k) = -1 from if_neg (by omega)]; decide) (sk_ge (by omega))
  | succ d ih =>
    intro f m k h1 h2 h hp h18 hl hk
    obtain ⟨f, rfl⟩ : ∃ k, f = k + 1 := ⟨f - 1, by omega⟩
    have hn := h.2.2
    have hlt : s + k < n := by omega
    by_cases hq : isLet (t (s + k)) = true
    · have es : sk isLet n t (s + k) = sk isLet n t (s + (k + 1)) := by rw [sk_lt hlt, if_pos hq]; rfl
      rw [es]
      show ∃ m', f_X9_isCommonWord_17b N (f_X9_isCommonWord_17 N f) m (nI k) = _ ∧ _
      unfold f_X9_isCommonWord_17b f_X9_isCommonWord_60
      have hq' : isLet (ch n t (s + k)) = true := by rw [show ch n t (s + k) = t (s + k) from if_pos hlt]; exact hq
      rw [m_here h hp (by omega), bm_some, m_isLetter, bm_some, if01, if_pos hq']
      have key : ∀ c : Int32, cdF n t s (k + 1) = c → ∃ m', lm (up m 111 18 c) (fun m1 => lm (up m1 111 16 (m1 111 16 + 1)) (fun m2 => f_X9_isCommonWord_17 N f m2 (nI k + 1))) = some (m', if 1 ≤ sk isLet n t (s + (k + 1)) - s ∧ sk isLet n t (s + (k + 1)) - s ≤ 8 then 1 else 0) ∧ m' 111 16 = nI (sk isLet n t (s + (k + 1))) ∧ m' 111 17 = 1 ∧ m' 111 18 = cdF n t s (sk isLet n t (s + (k + 1)) - s) ∧ m' 111 10 = m 111 10 ∧ m' 111 20 = m 111 20 ∧ (∀ k, k ≠ 111 → m' k = m k) ∧ PF m m' := by
        intro c hc
        have p1 : up m 111 18 c 111 16 = nI (s + k) := by simp [up, hp]
        rw [lm_def, lm_def, p1, nI_1, nI_1]
        have pf : PF m (up (up m 111 18 c) 111 16 (nI (s + k + 1))) := (PF.u (by omega)).tr (PF.u (by omega))
        obtain ⟨m', a1, a2, a3, a4, a5, a6, a7, a8⟩ := ih f _ (k + 1) (by omega) (by omega) (pf.tm h) (by simp [up]; rfl) (by simp [up, hc]) (by omega) (by omega)
        exact ⟨m', a1, a2, a3, a4, by rw [a5]; simp [up], by rw [a6]; simp [up], fun k hk => by rw [a7 k hk, up_ne hk, up_ne hk], pf.tr a8⟩
      by_cases h4 : 4 ≤ k
      · rw [if_pos (show (4 : Int32) ≤ nI k from nI_le (a := 4) h4 (by omega))]
        exact key _ (by show (if 4 ≤ k then _ else _) = _; rw [if_pos h4, h18])
      · rw [if_neg (show ¬ (4 : Int32) ≤ nI k from nI_ge (b := 4) (by omega) (by decide)), m_here h hp (by omega), bm_some, m_small, bm_some]
        exact key _ (by show (if 4 ≤ k then _ else _) = _; rw [if_neg h4, h18])
    · refine stop f m k h hp h18 hl hk ?_ (by rw [sk_lt hlt, if_neg hq])
      rw [show ch n t (s + k) = t (s + k) from if_pos hlt]
      simpa using hq
theorem tailR_facts {n : Nat} {t : TT} : ∀ r e c W e' c' W', tailR n t r e c W = some (e', c', W') → c ≤ 6 → e ≤ n → c ≤ c' ∧ c' ≤ 6 ∧ e ≤ e' ∧ e' ≤ n := by
  intro r
  induction r with
  | zero =>
    intro e c W e' c' W' h hc he
    unfold tailR at h
    by_cases h58 : ch n t e = 58
    · rw [if_pos h58] at h; simp at h
    · rw [if_neg h58] at h
      simp only [Option.some.injEq, Prod.mk.injEq] at h
      omega
  | succ r ih =>
    intro e c W e' c' W' h hc he
    unfold tailR at h
    by_cases h58 : ch n t e = 58
    · rw [if_pos h58] at h
      by_cases hq : wOk n t (e + 1) ∧ c < 6
      · rw [if_pos hq] at h
        have hl := wOk_lt hq.1
        have := ih _ _ _ _ _ _ h (by omega) (by omega)
        omega
      · rw [if_neg hq] at h; simp at h
    · rw [if_neg h58] at h
      simp only [Option.some.injEq, Prod.mk.injEq] at h
      omega
theorem rowR_facts {n : Nat} {t : TT} {r i c e' c' : Nat} {W W' : Nat → TT} (h : rowR n t r i c W = some (e', c', W')) : 1 ≤ c' ∧ c' ≤ 6 ∧ i < e' ∧ e' ≤ n := by
  unfold rowR at h
  by_cases hq : wOk n t i ∧ c < 6
  · rw [if_pos hq] at h
    have hl := wOk_lt hq.1
    have := tailR_facts _ _ _ _ _ _ _ h (by omega) (by omega)
    omega
  · rw [if_neg hq] at h; simp at h
theorem m_header {m : Mem} {n : Nat} {t : TT} {N : Nat} (hN : 200 ≤ N) (h : TM m n t) {i b : Nat} {W : Nat → TT} (hp : m 111 16 = nI i) (hi : i ≤ n) (hb : m 111 22 = nI b) (hb5 : b ≤ 5) (hW : ∀ s j, s < 3 → j < b → m (117 + s) j = W s j) : (∃ hd cm c W' m', hdR n t i b W = some (hd, cm, c, W') ∧ (cm = true ∨ isFig (ch n t hd) = false) ∧ f_X9_isHeader N m = some (m', 1) ∧ m' 111 16 = nI hd ∧ i ≤ hd ∧ hd ≤ n ∧ m' 111 17 = b2i cm ∧ (cm = true → m' 111 18 = cdF n t (i + 1) (hd - (i + 1)) ∧ c = b ∧ W' = W) ∧ (cm = false → m' 111 10 = nI c ∧ 1 ≤ c ∧ c ≤ 6) ∧ (∀ s j, s < 3 → j < c → m' (117 + s) j = W' s j) ∧ m' 111 20 = m 111 20 ∧ PF m m') ∨ ((∀ hd cm c W', hdR n t i b W = some (hd, cm, c, W') → cm = false ∧ isFig (ch n t hd) = true) ∧ ∃ m', f_X9_isHeader N m = some (m', 0) ∧ PF m m') := by
  have hn := h.2.2
  unfold f_X9_isHeader
  have g22 : up m 111 17 0 111 22 = nI b := by simp [up, hb]
  rw [lm_def, lm_def, g22]
  have pf1 : PF m (up (up m 111 17 0) 111 10 (nI b)) := (PF.u (by omega)).tr (PF.u (by omega))
  have p1 : up (up m 111 17 0) 111 10 (nI b) 111 16 = nI i := by simp [up, hp]
  have q1 : up (up m 111 17 0) 111 10 (nI b) 111 10 = nI b := by simp [up]
  have r1 : up (up m 111 17 0) 111 10 (nI b) 111 17 = 0 := by simp [up]
  have r20 : up (up m 111 17 0) 111 10 (nI b) 111 20 = m 111 20 := by simp [up]
  have o1 : ∀ k, k ≠ 111 → up (up m 111 17 0) 111 10 (nI b) k = m k := fun k hk => by rw [up_ne hk, up_ne hk]
  generalize up (up m 111 17 0) 111 10 (nI b) = m1 at *
  have t1 := pf1.tm h
  rw [m_here t1 p1 (by omega), bm_some]
  by_cases h42 : ch n t i = 42
  · have hlt := ch_pos (n := n) (t := t) (i := i) (by rw [h42]; decide)
    unfold hdR
    rw [if_pos h42, if_pos h42]
    unfold f_X9_isCommonWord
    have p2 : m1 111 16 + 1 = nI (i + 1) := by rw [p1, nI_1]
    rw [lm_def, lm_def, p2]
    have pf2 : PF m1 (up (up m1 111 16 (nI (i + 1))) 111 18 0) := (PF.u (by omega)).tr (PF.u (by omega))
    obtain ⟨m', a1, a2, a3, a4, a5, a6, a7, a8⟩ := m_cw17 (n := n) (t := t) (N := N) (s := i + 1) (n - (i + 1 + 0)) N (up (up m1 111 16 (nI (i + 1))) 111 18 0) 0 rfl (by omega) (pf2.tm t1) (by simp [up]) (by simp [up]; rfl) (by omega) (by omega)
    rw [show f_X9_isCommonWord_17 N N (up (up m1 111 16 (nI (i + 1))) 111 18 0) 0 = _ from a1, bm_some, gd_of isB01]
    simp only [Nat.add_zero] at a2 a4 ⊢
    by_cases ho : wOk n t (i + 1)
    · left
      have hl := wOk_lt ho
      rw [if_pos ho, if_pos (show 1 ≤ sk isLet n t (i + 1) - (i + 1) ∧ sk isLet n t (i + 1) - (i + 1) ≤ 8 from ho)]
      refine ⟨wE n t (i + 1), true, b, W, m', rfl, .inl rfl, rfl, a2, by omega, by omega, a3, fun _ => ⟨a4, rfl, rfl⟩, fun q => by simp at q, fun s j hs hj => ?_, ?_, (pf1.tr pf2).tr a8⟩
      · rw [a7 _ (by omega), up_ne (by omega), up_ne (by omega), o1 _ (by omega)]
        exact hW s j hs hj
      · rw [a6]; simp [up, r20]
    · right
      rw [if_neg ho, if_neg (show ¬ (1 ≤ sk isLet n t (i + 1) - (i + 1) ∧ sk isLet n t (i + 1) - (i + 1) ≤ 8) from ho)]
      exact ⟨fun _ _ _ _ q => by simp at q, m', rfl, (pf1.tr pf2).tr a8⟩
  · rw [if_neg h42, m_here t1 p1 (by omega), bm_some]
    have row : ∀ (M : Mem) (i1 c0 : Nat), (if ch n t i = 58 then i + 1 else i) = i1 → (if ch n t i = 58 then 0 else b) = c0 → PF m M → (∀ k, k ≠ 111 → M k = m k) → M 111 16 = nI i1 → M 111 10 = nI c0 → M 111 17 = 0 → M 111 20 = m 111 20 → i ≤ i1 → i1 ≤ n → c0 ≤ b → (∃ hd cm c W' m', hdR n t i b W = some (hd, cm, c, W') ∧ (cm = true ∨ isFig (ch n t hd) = false) ∧ f_X9_isHeader_51 N M = some (m', 1) ∧ m' 111 16 = nI hd ∧ i ≤ hd ∧ hd ≤ n ∧ m' 111 17 = b2i cm ∧ (cm = true → m' 111 18 = cdF n t (i + 1) (hd - (i + 1)) ∧ c = b ∧ W' = W) ∧ (cm = false → m' 111 10 = nI c ∧ 1 ≤ c ∧ c ≤ 6) ∧ (∀ s j, s < 3 → j < c → m' (117 + s) j = W' s j) ∧ m' 111 20 = m 111 20 ∧ PF m m') ∨ ((∀ hd cm c W', hdR n t i b W = some (hd, cm, c, W') → cm = false ∧ isFig (ch n t hd) = true) ∧ ∃ m', f_X9_isHeader_51 N M = some (m', 0) ∧ PF m m') := by
      intro M i1 c0 ei ec pf fo pM qM rM sM l1 l2 l3
      unfold hdR f_X9_isHeader_51
      rw [if_neg h42, ei, ec]
      have tM := pf.tm h
      have wm : WM M c0 W := ⟨qM, fun s j hs hj => by rw [fo _ (by omega)]; exact hW s j hs (by omega)⟩
      rcases m_areWords hN tM pM l2 wm (by omega) with ⟨e', c', W', m', a1, a2, a3, a4, a5, a6⟩ | ⟨a1, m', b', a2, a3, a4⟩
      · left
        have fx := rowR_facts a1
        rw [a1, a3, bm_some, if_neg (by decide), a5.1, if_neg (show ¬ (6 : Int32) < nI c' from fun q => absurd ((nI_ltI (a := 6) (by omega) (by omega)).mp q) (by omega))]
        exact ⟨e', false, c', W', m', rfl, .inr a2, rfl, a4, by omega, by omega, by rw [a6.2 17 (by decide) (by decide), rM]; rfl, fun q => by simp at q, fun _ => ⟨a5.1, fx.1, fx.2.1⟩, a5.2, by rw [a6.2 20 (by decide) (by decide), sM], pf.tr a6.pf⟩
      · right
        refine ⟨fun hd cm c W' q => ?_, m', ?_, pf.tr a4.pf⟩
        · generalize hX : rowR n t 3 i1 c0 W = X at *
          cases X with
          | none => simp at q
          | some x =>
            obtain ⟨x1, x2, x3⟩ := x
            simp only [Option.some.injEq, Prod.mk.injEq] at q
            refine ⟨q.2.1.symm, ?_⟩
            rw [← q.1]
            exact a1 x1 x2 x3 rfl
        · rw [a2, bm_some]
          cases b' with
          | false => rfl
          | true => rw [(a3 rfl).1]; rfl
    by_cases h58 : ch n t i = 58
    · have hlt := ch_pos (n := n) (t := t) (i := i) (by rw [h58]; decide)
      have p2 : m1 111 16 + 1 = nI (i + 1) := by rw [p1, nI_1]
      have R := row (up (up m1 111 16 (nI (i + 1))) 111 10 0) (i + 1) 0 (by rw [if_pos h58]) (by rw [if_pos h58]) (pf1.tr ((PF.u (by omega)).tr (PF.u (by omega)))) (fun k hk => by rw [up_ne hk, up_ne hk, o1 k hk]) (by simp [up]) (by simp [up]; rfl) (by simp [up, r1]) (by simp [up, r20]) (by omega) (by omega) (by omega)
      simp only [if_pos h58, lm_def, p2] at R ⊢
      exact R
    · have R := row m1 i b (by rw [if_neg h58]) (by rw [if_neg h58]) pf1 o1 p1 q1 r1 r20 (by omega) (by omega) (by omega)
      simp only [if_neg h58] at R ⊢
      exact R
