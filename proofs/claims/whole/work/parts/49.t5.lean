/-! the value, as the model reads it -/
def PF (m m' : Mem) : Prop := (∀ k, k ≠ 111 → (k < 117 ∨ 119 < k) → m' k = m k) ∧ ∀ j, (j < 10 ∨ 22 ≤ j ∨ j = 15) → m' 111 j = m 111 j
theorem PF.rf {m : Mem} : PF m m := ⟨fun _ _ _ => rfl, fun _ _ => rfl⟩
theorem PF.tr {a b c : Mem} (h : PF a b) (g : PF b c) : PF a c := ⟨fun k h1 h2 => (g.1 k h1 h2).trans (h.1 k h1 h2), fun j h1 => (g.2 j h1).trans (h.2 j h1)⟩
theorem PF.tm {m m' : Mem} {n : Nat} {t : TT} (f : PF m m') (h : TM m n t) : TM m' n t := by
  unfold TM
  rw [f.2 6 (by decide), f.1 116 (by decide) (by decide)]
  exact h
theorem PF.u {m : Mem} {j : Nat} {v : Int32} (hj : 10 ≤ j ∧ j < 22 ∧ j ≠ 15) : PF m (up m 111 j v) := ⟨fun k hk _ => up_ne hk, fun i h1 => by simp only [up]; rw [if_neg (by omega)]⟩
theorem WF.pf {m m' : Mem} (h : WF m m') : PF m m' := ⟨h.1, fun j hj => h.2 j (by omega) (by omega)⟩
/-- the value's frame: only slots 16, 20, 21 of the model -/
def VF (m m' : Mem) : Prop := (∀ k, k ≠ 111 → m' k = m k) ∧ ∀ j, j ≠ 16 → j ≠ 20 → j ≠ 21 → m' 111 j = m 111 j
theorem VF.rf {m : Mem} : VF m m := ⟨fun _ _ => rfl, fun _ _ _ _ => rfl⟩
theorem VF.tr {a b c : Mem} (h : VF a b) (g : VF b c) : VF a c := ⟨fun k h1 => (g.1 k h1).trans (h.1 k h1), fun j h1 h2 h3 => (g.2 j h1 h2 h3).trans (h.2 j h1 h2 h3)⟩
theorem VF.tm {m m' : Mem} {n : Nat} {t : TT} (f : VF m m') (h : TM m n t) : TM m' n t := by
  unfold TM
  rw [f.2 6 (by decide) (by decide) (by decide), f.1 116 (by decide)]
  exact h
theorem VF.u {m : Mem} {j : Nat} {v : Int32} (hj : j = 16 ∨ j = 20 ∨ j = 21) : VF m (up m 111 j v) := ⟨fun k hk => up_ne hk, fun i h1 h2 h3 => by simp only [up]; rw [if_neg (by omega)]⟩
theorem fgR_len {n : Nat} {t : TT} : ∀ r k v c, k ≤ (fgR n t r k v c).1 ∧ (fgR n t r k v c).1 ≤ k + r ∧ ((fgR n t r k v c).1 ≤ n ∨ (fgR n t r k v c).1 = k) ∧ c ≤ (fgR n t r k v c).2.2 ∧ (fgR n t r k v c).2.2 ≤ c + r ∧ (isFig (ch n t (fgR n t r k v c).1) = true → (fgR n t r k v c).2.2 = c + r) ∧ (isFig (ch n t (fgR n t r k v c).1) = false → fgR n t (r + 1) k v c = fgR n t r k v c) ∧ (isFig (ch n t (fgR n t r k v c).1) = true → (fgR n t (r + 1) k v c).2.2 = c + r + 1) := by
  intro r
  induction r with
  | zero =>
    intro k v c
    refine ⟨Nat.le_refl _, Nat.le_refl _, .inr rfl, Nat.le_refl _, Nat.le_refl _, fun _ => rfl, fun h => ?_, fun h => ?_⟩
    · show (if isFig (ch n t k) = true then _ else _) = _
      rw [if_neg (by rw [show isFig (ch n t k) = false from h]; decide)]
      rfl
    · show (if isFig (ch n t k) = true then fgR n t 0 (k + 1) _ (c + 1) else (k, v, c)).2.2 = _
      rw [if_pos (show isFig (ch n t k) = true from h)]
      rfl
  | succ r ih =>
    intro k v c
    by_cases hf : isFig (ch n t k) = true
    · have e : ∀ r, fgR n t (r + 1) k v c = fgR n t r (k + 1) (10 * v + ch n t k - 48) (c + 1) := fun r => by
        show (if isFig (ch n t k) = true then _ else _) = _
        rw [if_pos hf]
      have hk2 := ch_pos (n := n) (t := t) (i := k) (by unfold isFig at hf; grind)
      rw [e r, e (r + 1)]
      obtain ⟨a1, a2, a3, a4, a5, a6, a7, a8⟩ := ih (k + 1) (10 * v + ch n t k - 48) (c + 1)
      refine ⟨by omega, by omega, by omega, by omega, by omega, fun h => ?_, a7, fun h => ?_⟩
      · rw [a6 h]; omega
      · rw [a8 h]; omega
    · have e : ∀ r, fgR n t (r + 1) k v c = (k, v, c) := fun r => by
        show (if isFig (ch n t k) = true then _ else _) = _
        rw [if_neg hf]
      rw [e r, e (r + 1)]
      exact ⟨Nat.le_refl _, by show k ≤ k + (r + 1); omega, .inr rfl, Nat.le_refl _, by show c ≤ c + (r + 1); omega, fun h => absurd h hf, fun _ => rfl, fun h => absurd h hf⟩
theorem m_num74 {n : Nat} {t : TT} {N : Nat} (sg : Int32) : ∀ r f m k v c, r + c = 7 → r < f → TM m n t → m 111 16 = nI k → m 111 21 = v → k ≤ 200 → ∃ m', f_X9_isUnitValue_74 N f m sg (nI c) = f_X9_isUnitValue_122 N m' sg (nI (fgR n t r k v c).2.2) ∧ m' 111 16 = nI (fgR n t r k v c).1 ∧ m' 111 21 = (fgR n t r k v c).2.1 ∧ m' 111 20 = m 111 20 ∧ VF m m' := by
  intro r
  induction r with
  | zero =>
    intro f m k v c h1 h2 h hp hv hk
    obtain ⟨f, rfl⟩ : ∃ k, f = k + 1 := ⟨f - 1, by omega⟩
    refine ⟨m, ?_, hp, hv, rfl, VF.rf⟩
    show f_X9_isUnitValue_74b N (f_X9_isUnitValue_74 N f) m sg (nI c) = _
    unfold f_X9_isUnitValue_74b
    rw [m_isFigure h hp (by omega), bm_some, if01, if_pos (show (7 : Int32) ≤ nI c from nI_le (a := 7) (by omega) (by omega))]
    split <;> rfl
  | succ r ih =>
    intro f m k v c h1 h2 h hp hv hk
    obtain ⟨f, rfl⟩ : ∃ k, f = k + 1 := ⟨f - 1, by omega⟩
    have hn := h.2.2
    show ∃ m', f_X9_isUnitValue_74b N (f_X9_isUnitValue_74 N f) m sg (nI c) = _ ∧ _
    unfold f_X9_isUnitValue_74b fgR
    rw [m_isFigure h hp (by omega), bm_some, if01, if_neg (show ¬ (7 : Int32) ≤ nI c from nI_ge (b := 7) (by omega) (by decide))]
    by_cases hf : isFig (ch n t k) = true
    · have hk2 := ch_pos (n := n) (t := t) (i := k) (by unfold isFig at hf; grind)
      rw [if_pos hf, if_pos hf, m_here h hp (by omega), bm_some, lm_def, lm_def, hv, nI_1]
      have e16 : ∀ w, up m 111 21 w 111 16 = nI k := fun w => by simp [up, hp]
      rw [e16, nI_1]
      have b1 : VF m (up (up m 111 21 (10 * v + ch n t k - 48)) 111 16 (nI (k + 1))) := (VF.u (by omega)).tr (VF.u (by omega))
      obtain ⟨m', a1, a2, a3, a4, a5⟩ := ih f _ (k + 1) (10 * v + ch n t k - 48) (c + 1) (by omega) (by omega) (b1.tm h) (by simp [up]) (by simp [up]) (by omega)
      exact ⟨m', a1, a2, a3, by rw [a4]; simp [up], b1.tr a5⟩
    · rw [if_neg hf, if_neg hf]
      exact ⟨m, rfl, hp, hv, rfl, VF.rf⟩
theorem sp7 {n : Nat} {t : TT} {a b : Nat} : spR n t 7 a b ↔ (b - a = 2 ∧ sml (ch n t a) = 111 ∧ sml (ch n t (a + 1)) = 110) := by
  have e : strN.getD 7 0 = 2 := rfl
  have c0 : strCh 7 0 = 79 := by decide
  have c1 : strCh 7 1 = 78 := by decide
  have g : ∀ c : Int32, (cap c = 79 ↔ sml c = 111) ∧ (cap c = 78 ↔ sml c = 110) := by intro c; unfold cap sml; grind
  constructor
  · rintro ⟨h1, h2⟩
    have q0 := h2 0 (by decide)
    have q1 := h2 1 (by decide)
    rw [c0] at q0
    rw [c1] at q1
    exact ⟨h1, (g _).1.mp q0, (g _).2.mp q1⟩
  · rintro ⟨h1, h2, h3⟩
    refine ⟨h1, fun j hj => ?_⟩
    rcases (show j = 0 ∨ j = 1 by omega) with q | q <;> subst q
    · rw [c0]; exact (g _).1.mpr h2
    · rw [c1]; exact (g _).2.mpr h3
theorem sp8 {n : Nat} {t : TT} {a b : Nat} : spR n t 8 a b ↔ (b - a = 3 ∧ sml (ch n t a) = 111 ∧ sml (ch n t (a + 1)) = 102 ∧ sml (ch n t (a + 2)) = 102) := by
  have e : strN.getD 8 0 = 3 := rfl
  have c0 : strCh 8 0 = 79 := by decide
  have c1 : strCh 8 1 = 70 := by decide
  have c2 : strCh 8 2 = 70 := by decide
  have g : ∀ c : Int32, (cap c = 79 ↔ sml c = 111) ∧ (cap c = 70 ↔ sml c = 102) := by intro c; unfold cap sml; grind
  constructor
  · rintro ⟨h1, h2⟩
    have q0 := h2 0 (by decide)
    have q1 := h2 1 (by decide)
    have q2 := h2 2 (by decide)
    rw [c0] at q0
    rw [c1] at q1
    rw [c2] at q2
    exact ⟨h1, (g _).1.mp q0, (g _).2.mp q1, (g _).2.mp q2⟩
  · rintro ⟨h1, h2, h3, h4⟩
    refine ⟨h1, fun j hj => ?_⟩
    rcases (show j = 0 ∨ j = 1 ∨ j = 2 by omega) with q | q | q <;> subst q
    · rw [c0]; exact (g _).1.mpr h2
    · rw [c1]; exact (g _).2.mpr h3
    · rw [c2]; exact (g _).2.mpr h4
theorem m_wordVal {m : Mem} {n : Nat} {t : TT} {N : Nat} (hN : 200 ≤ N) (h : TM m n t) {k : Nat} (hp : m 111 16 = nI k) (hk : k < n) : ∃ m', f_X9_isWordValue N m = some (m', if spR n t 7 k (sk isLet n t k) ∨ spR n t 8 k (sk isLet n t k) then 1 else 0) ∧ m' 111 16 = nI (sk isLet n t k) ∧ m' 111 21 = (if spR n t 7 k (sk isLet n t k) then 1 else 0) ∧ m' 111 20 = m 111 20 ∧ VF m m' := by
  have hn := h.2.2
  obtain ⟨k1, k2, k3, k4⟩ := sk_all isLet n t k
  unfold f_X9_isWordValue
  rw [hp]
  have g := sk_loop (Q := isLet) (n := n) (t := t) (fun f x => f_X9_isWordValue_5 N f (up m 111 16 x) (nI k)) (fun e => f_X9_isWordValue_5b N (fun _ _ => none) (up m 111 16 (nI e)) (nI k)) (fun f i h1 h2 => ?_) (fun f i h1 h2 => ?_) (by omega) (n - k) k N rfl (by omega) (by omega)
  · simp only [up_self hp] at g
    rw [show f_X9_isWordValue_5 N N m (nI k) = _ from g]
    clear g
    generalize he : sk isLet n t k = e at *
    have t2 := h.p (nI e)
    have pe : up m 111 16 (nI e) 111 16 = nI e := by simp [up]
    have hnl : isLet (ch n t e) = false := by
      by_cases hl : e < n
      · rw [show ch n t e = t e from if_pos hl]; exact k4 hl
      · rw [show ch n t e = -1 from if_neg hl]; decide
    have v1 : VF m (up m 111 16 (nI e)) := VF.u (by omega)
    have e20 : up m 111 16 (nI e) 111 20 = m 111 20 := by simp [up]
    generalize hg : up m 111 16 (nI e) = A at *
    have at_ : ∀ j, j < n → A 116 j = ch n t j := fun j hj => by rw [t2.2.1 j hj, show ch n t j = t j from if_pos hj]
    unfold f_X9_isWordValue_5b f_X9_isWordValue_72
    rw [m_here t2 pe (by omega), bm_some, m_isLetter, bm_some, if01, hnl, if_neg (by decide), pe, pk_sub k1]
    have l146 : ∀ x2 x3 : Int32, (x2 = 0 ∨ x2 = 1) → ∃ m', f_X9_isWordValue_135 N A x2 x3 = some (m', if x2 = 1 ∨ ¬ x3 = 0 then 1 else 0) ∧ m' 111 16 = nI e ∧ m' 111 21 = x2 ∧ m' 111 20 = m 111 20 ∧ VF m m' := by
      intro x2 x3 hx
      unfold f_X9_isWordValue_135 f_X9_isWordValue_146 f_X9_isWordValue_157
      rcases hx with hx | hx <;> subst hx
      · simp only [if_true, lm_def]
        refine ⟨up A 111 21 0, ?_, by simp [up, pe], by simp [up], by simp [up, e20], v1.tr (VF.u (by omega))⟩
        by_cases h3 : x3 = 0 <;> simp [h3]
      · simp only [if_neg (show ¬ (1 : Int32) = 0 by decide), lm_def]
        refine ⟨up A 111 21 1, by simp, by simp [up, pe], by simp [up], by simp [up, e20], v1.tr (VF.u (by omega))⟩
    have l73 : ∀ s0 : Int32, (s0 = 0 ∨ s0 = 1) → ∃ m', f_X9_isWordValue_73 N A (nI k) s0 = some (m', if s0 = 1 ∨ spR n t 8 k e then 1 else 0) ∧ m' 111 16 = nI e ∧ m' 111 21 = s0 ∧ m' 111 20 = m 111 20 ∧ VF m m' := by
      intro s0 hs
      unfold f_X9_isWordValue_73 f_X9_isWordValue_134
      rw [pe, pk_sub k1]
      by_cases h3 : e - k = 3
      · rw [if_pos (show nI (e - k) = (3 : Int32) by rw [h3]; rfl), gd_of (inR_nI (by omega) (by decide)), ix_nI (by omega), at_ k hk, m_small, bm_some, show (1 : Int32) = nI 1 from rfl, show (2 : Int32) = nI 2 from rfl, nI_add, nI_add, gd_of (inR_nI (by omega) (by decide)), ix_nI (by omega), at_ (k + 1) (by omega), m_small, bm_some, gd_of (inR_nI (by omega) (by decide)), ix_nI (by omega), at_ (k + 2) (by omega), m_small, bm_some]
        have sp := sp8 (n := n) (t := t) (a := k) (b := e)
        by_cases q1 : sml (ch n t k) = 111
        · rw [if_pos q1]
          by_cases q2 : sml (ch n t (k + 1)) = 102
          · rw [if_pos q2]
            by_cases q3 : sml (ch n t (k + 2)) = 102
            · rw [if_pos q3]
              have hsp := sp.mpr ⟨h3, q1, q2, q3⟩
              obtain ⟨m', a1, a2, a3, a4, a5⟩ := l146 s0 (nI 1) hs
              refine ⟨m', ?_, a2, a3, a4, a5⟩
              rw [a1, if_pos (.inr (by decide)), if_pos (.inr hsp)]
              rfl
            · rw [if_neg q3]
              have hsp : ¬ spR n t 8 k e := fun q => q3 (sp.mp q).2.2.2
              obtain ⟨m', a1, a2, a3, a4, a5⟩ := l146 s0 0 hs
              refine ⟨m', ?_, a2, a3, a4, a5⟩
              rw [a1]
              simp [hsp]
              rfl
          · rw [if_neg q2]
            have hsp : ¬ spR n t 8 k e := fun q => q2 (sp.mp q).2.2.1
            obtain ⟨m', a1, a2, a3, a4, a5⟩ := l146 s0 0 hs
            refine ⟨m', ?_, a2, a3, a4, a5⟩
            rw [a1]
            simp [hsp]
            rfl
        · rw [if_neg q1]
          have hsp : ¬ spR n t 8 k e := fun q => q1 (sp.mp q).2.1
          obtain ⟨m', a1, a2, a3, a4, a5⟩ := l146 s0 0 hs
          refine ⟨m', ?_, a2, a3, a4, a5⟩
          rw [a1]
          simp [hsp]
          rfl
      · rw [if_neg (show ¬ nI (e - k) = (3 : Int32) from fun q => h3 ((nI_eq (b := 3) (by omega) (by decide)).mp q))]
        have hsp : ¬ spR n t 8 k e := fun q => h3 q.1
        obtain ⟨m', a1, a2, a3, a4, a5⟩ := l146 s0 0 hs
        refine ⟨m', ?_, a2, a3, a4, a5⟩
        rw [a1]
        simp [hsp]
    have fin0 : ¬ spR n t 7 k e → ∃ m', f_X9_isWordValue_73 N A (nI k) 0 = some (m', if spR n t 7 k e ∨ spR n t 8 k e then 1 else 0) ∧ m' 111 16 = nI e ∧ m' 111 21 = (if spR n t 7 k e then 1 else 0) ∧ m' 111 20 = m 111 20 ∧ VF m m' := by
      intro hs
      obtain ⟨m', a1, a2, a3, a4, a5⟩ := l73 0 (.inl rfl)
      refine ⟨m', ?_, a2, by rw [a3, if_neg hs], a4, a5⟩
      rw [a1]
      simp [hs]
    have sp := sp7 (n := n) (t := t) (a := k) (b := e)
    by_cases h2 : e - k = 2
    · rw [if_pos (show nI (e - k) = (2 : Int32) by rw [h2]; rfl), gd_of (inR_nI (by omega) (by decide)), ix_nI (by omega), at_ k hk, m_small, bm_some, show (1 : Int32) = nI 1 from rfl, nI_add, gd_of (inR_nI (by omega) (by decide)), ix_nI (by omega), at_ (k + 1) (by omega), m_small, bm_some, show nI 1 = (1 : Int32) from rfl]
      by_cases q1 : sml (ch n t k) = 111
      · rw [if_pos q1]
        by_cases q2 : sml (ch n t (k + 1)) = 110
        · rw [if_pos q2]
          have hsp := sp.mpr ⟨h2, q1, q2⟩
          obtain ⟨m', a1, a2, a3, a4, a5⟩ := l73 1 (.inr rfl)
          refine ⟨m', ?_, a2, by rw [a3, if_pos hsp], a4, a5⟩
          rw [a1, if_pos (.inl rfl), if_pos (.inl hsp)]
        · rw [if_neg q2]
          exact fin0 (fun q => q2 (sp.mp q).2.2)
      · rw [if_neg q1]
        exact fin0 (fun q => q1 (sp.mp q).2.1)
    · rw [if_neg (show ¬ nI (e - k) = (2 : Int32) from fun q => h2 ((nI_eq (b := 2) (by omega) (by decide)).mp q))]
      exact fin0 (fun q => h2 q.1)
  · show f_X9_isWordValue_5b N (f_X9_isWordValue_5 N f) (up m 111 16 (nI i)) (nI k) = _
    unfold f_X9_isWordValue_5b
    have e : up m 111 16 (nI i) 111 16 = nI i := by simp [up]
    rw [m_here (h.p _) e (by omega), bm_some, m_isLetter, bm_some, if01, show ch n t i = t i from if_pos h1, if_pos h2, lm_def, e, nI_1, up_up]
  · show f_X9_isWordValue_5b N (f_X9_isWordValue_5 N f) (up m 111 16 (nI i)) (nI k) = f_X9_isWordValue_5b N (fun _ _ => none) _ _
    unfold f_X9_isWordValue_5b
    have e : up m 111 16 (nI i) 111 16 = nI i := by simp [up]
    have hnl : isLet (ch n t i) = false := by
      by_cases hl : i < n
      · rw [show ch n t i = t i from if_pos hl]; exact h2 hl
      · rw [show ch n t i = -1 from if_neg hl]; decide
    rw [m_here (h.p _) e (by omega)]
    simp only [bm_some, m_isLetter, if01, hnl, Bool.false_eq_true, if_false]
