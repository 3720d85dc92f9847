/-! names -/
def nmK (n : Nat) (t : TT) : Nat := sk isCap n t 0
def nmOk (n : Nat) (t : TT) : Prop := nmK n t ≠ 0 ∧ n ≤ 8 ∧ sk isSml n t (nmK n t) = n
theorem c_isName {m : Mem} {n : Nat} {t : TT} (h : TC m n t) {N : Nat} (hN : 200 ≤ N) : (nmOk n t ∧ f_X4_isName N m = some (m, 1)) ∨ (¬ nmOk n t ∧ f_X4_isName N m = some (m, 0)) := by
  have hn := h.2.2
  unfold f_X4_isName
  rw [show (0 : Int32) = nI 0 from rfl, c_pastCapitals h hN (by decide), bm_some, h.1]
  obtain ⟨k1, k2, k3, k4⟩ := sk_all isCap n t 0
  by_cases h0 : sk isCap n t 0 = 0
  · right
    rw [h0, if_pos rfl]
    exact ⟨fun q => q.1 h0, rfl⟩
  · rw [if_neg (show ¬ nI (sk isCap n t 0) = nI 0 from fun q => h0 ((nI_eq (b := 0) (by omega) (by decide)).mp q))]
    by_cases h8 : n ≤ 8
    · rw [if_pos (show nI n ≤ (8 : Int32) from nI_le (b := 8) h8 (by decide))]
      have g : f_X4_isName_23 N N m (nI (sk isCap n t 0)) = some (m, if sk isSml n t (sk isCap n t 0) = n then 1 else 0) := by
        refine (sk_loop (Q := isSml) (n := n) (t := t) (fun f x => f_X4_isName_23 N f m x) (fun i => some (m, if n ≤ i then 1 else 0)) (fun f i h1 h2 => ?_) (fun f i h1 h2 => ?_) (by omega) (n - sk isCap n t 0) (sk isCap n t 0) N rfl (by omega) (by omega)).trans ?_
        · show f_X4_isName_23b N (f_X4_isName_23 N f) m (nI i) = _
          unfold f_X4_isName_23b
          rw [h.1, if_neg (nI_ge h1 (by omega)), c_byteAt h (by omega), bm_some, c_isSmall, bm_some, if01, show ch n t i = t i from if_pos h1, if_pos h2, nI_1]
        · show f_X4_isName_23b N (f_X4_isName_23 N f) m (nI i) = _
          unfold f_X4_isName_23b
          by_cases hl : i < n
          · rw [h.1, if_neg (nI_ge hl (by omega)), c_byteAt h (by omega), bm_some, c_isSmall, bm_some, if01, show ch n t i = t i from if_pos hl, h2 hl, if_neg (show ¬ n ≤ i by omega)]
            rfl
          · rw [h.1, if_pos (nI_le (by omega) (by omega)), if_pos (show n ≤ i by omega)]
        · obtain ⟨j1, j2, j3, j4⟩ := sk_all isSml n t (sk isCap n t 0)
          by_cases hh : sk isSml n t (sk isCap n t 0) = n
          · rw [if_pos hh, if_pos (by omega)]
          · rw [if_neg hh, if_neg (by omega)]
      rw [g]
      by_cases hh : sk isSml n t (sk isCap n t 0) = n
      · left
        rw [if_pos hh]
        exact ⟨⟨h0, h8, hh⟩, rfl⟩
      · right
        rw [if_neg hh]
        exact ⟨fun q => hh q.2.2, rfl⟩
    · right
      rw [if_neg (show ¬ nI n ≤ (8 : Int32) from nI_ge (b := n) (a := 8) (by omega) (by omega))]
      exact ⟨fun q => h8 q.2.1, rfl⟩
theorem m_cap45 {m : Mem} {n : Nat} {t : TT} (h : TM m n t) {N : Nat} (k : Int32) : ∀ d i f, n - i = d → d < f → i ≤ n → f_X9_capitals_45 N f m k 0 (nI i) = some (m, 0) := by
  have hn := h.2.2
  intro d
  induction d with
  | zero =>
    intro i f h1 h2 h3
    obtain ⟨f, rfl⟩ : ∃ k, f = k + 1 := ⟨f - 1, by omega⟩
    show f_X9_capitals_45b N (f_X9_capitals_45 N f) m k 0 (nI i) = _
    unfold f_X9_capitals_45b
    rw [h.1, if_pos (nI_le (by omega) (by omega)), if_pos rfl]
  | succ d ih =>
    intro i f h1 h2 h3
    obtain ⟨f, rfl⟩ : ∃ k, f = k + 1 := ⟨f - 1, by omega⟩
    show f_X9_capitals_45b N (f_X9_capitals_45 N f) m k 0 (nI i) = _
    unfold f_X9_capitals_45b f_X9_capitals_73 f_X9_capitals_74
    rw [h.1, if_neg (nI_ge (by omega) (by omega)), if_pos rfl, nI_1]
    exact ih (i + 1) f (by omega) (by omega) (by omega)
theorem m_cap45b {m : Mem} {n : Nat} {t : TT} (h : TM m n t) {N : Nat} (k : Int32) : ∀ d i f, n - i = d → d < f → i ≤ n → f_X9_capitals_45 N f m k 1 (nI i) = some (m, if sk isSml n t i = n then k else 0) := by
  have hn := h.2.2
  intro d
  induction d with
  | zero =>
    intro i f h1 h2 h3
    obtain ⟨f, rfl⟩ : ∃ k, f = k + 1 := ⟨f - 1, by omega⟩
    show f_X9_capitals_45b N (f_X9_capitals_45 N f) m k 1 (nI i) = _
    unfold f_X9_capitals_45b
    rw [h.1, if_pos (nI_le (by omega) (by omega)), if_neg (by decide), sk_ge (by omega), if_pos (by omega)]
  | succ d ih =>
    intro i f h1 h2 h3
    obtain ⟨f, rfl⟩ : ∃ k, f = k + 1 := ⟨f - 1, by omega⟩
    show f_X9_capitals_45b N (f_X9_capitals_45 N f) m k 1 (nI i) = _
    unfold f_X9_capitals_45b f_X9_capitals_73 f_X9_capitals_74
    rw [h.1, if_neg (nI_ge (by omega) (by omega)), if_neg (by decide), gd_of (inR_nI (by omega) (by decide)), ix_nI (by omega), h.2.1 i (by omega), m_isSmall, bm_some, if01, nI_1, sk_lt (by omega)]
    by_cases hq : isSml (t i) = true
    · rw [if_pos hq, if_pos hq]
      exact ih (i + 1) f (by omega) (by omega) (by omega)
    · rw [if_neg hq, if_neg hq, m_cap45 h k (n - (i + 1)) (i + 1) f rfl (by omega) (by omega), if_neg (by omega)]
theorem m_capitals {m : Mem} {n : Nat} {t : TT} (h : TM m n t) {N : Nat} (hN : 200 ≤ N) : (nmOk n t ∧ f_X9_capitals N m = some (m, nI (nmK n t))) ∨ (¬ nmOk n t ∧ f_X9_capitals N m = some (m, 0)) := by
  have hn := h.2.2
  obtain ⟨k1, k2, k3, k4⟩ := sk_all isCap n t 0
  have g : f_X9_capitals N m = f_X9_capitals_28 N m (nI (sk isCap n t 0)) := by
    refine (sk_loop (Q := isCap) (n := n) (t := t) (fun f x => f_X9_capitals_2 N f m x) (fun i => f_X9_capitals_28 N m (nI i)) (fun f i h1 h2 => ?_) (fun f i h1 h2 => ?_) (by omega) (n - 0) 0 N rfl (by omega) (by omega))
    · show f_X9_capitals_2b N (f_X9_capitals_2 N f) m (nI i) = _
      unfold f_X9_capitals_2b
      rw [h.1, if_neg (nI_ge h1 (by omega)), gd_of (inR_nI (by omega) (by decide)), ix_nI (by omega), h.2.1 i h1, m_isCapital, bm_some, if01, if_pos h2, nI_1]
    · show f_X9_capitals_2b N (f_X9_capitals_2 N f) m (nI i) = _
      unfold f_X9_capitals_2b
      by_cases hl : i < n
      · rw [h.1, if_neg (nI_ge hl (by omega)), gd_of (inR_nI (by omega) (by decide)), ix_nI (by omega), h.2.1 i hl, m_isCapital, bm_some, if01, h2 hl]
        rfl
      · rw [h.1, if_pos (nI_le (by omega) (by omega))]
  rw [g]
  unfold f_X9_capitals_28 f_X9_capitals_42
  rw [h.1]
  by_cases h8 : n ≤ 8
  · rw [if_neg (show ¬ (8 : Int32) < nI n from fun q => absurd ((nI_ltI (a := 8) (by omega) (by omega)).mp q) (by omega)), m_cap45b h _ (n - sk isCap n t 0) _ N rfl (by omega) (by omega)]
    by_cases hh : sk isSml n t (sk isCap n t 0) = n
    · rw [if_pos hh]
      by_cases h0 : sk isCap n t 0 = 0
      · right
        rw [h0]
        exact ⟨fun q => q.1 h0, rfl⟩
      · left
        exact ⟨⟨h0, h8, hh⟩, rfl⟩
    · right
      rw [if_neg hh]
      exact ⟨fun q => hh q.2.2, rfl⟩
  · right
    rw [if_pos (show (8 : Int32) < nI n from nI_lt (a := 8) (by omega) (by omega)), m_cap45 h _ (n - sk isCap n t 0) _ N rfl (by omega) (by omega)]
    exact ⟨fun q => h8 q.2.1, rfl⟩
theorem nm_facts {n : Nat} {t : TT} (h : nmOk n t) : 1 ≤ nmK n t ∧ nmK n t ≤ n ∧ n ≤ 8 ∧ ∀ i, i < n → isLet (t i) = true := by
  obtain ⟨h1, h2, h3⟩ := h
  obtain ⟨k1, k2, k3, k4⟩ := sk_all isCap n t 0
  obtain ⟨j1, j2, j3, j4⟩ := sk_all isSml n t (nmK n t)
  have hk : nmK n t ≤ n := by unfold nmK; unfold nmK at h1; omega
  refine ⟨by omega, hk, h2, fun i hi => ?_⟩
  by_cases hc : i < nmK n t
  · have := (k3 i (by omega) hc).2
    unfold isCap at this
    unfold isLet
    grind
  · have := (j3 i (by omega) (by omega)).2
    unfold isSml at this
    unfold isLet
    grind
theorem let_sml {c : Int32} (h : isLet c = true) : cap c + 32 = sml c ∧ 97 ≤ sml c ∧ sml c ≤ 122 ∧ 0 ≤ cap c ∧ cap c ≤ 127 := by
  unfold isLet at h
  unfold cap sml
  grind
