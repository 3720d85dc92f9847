/-! the text, read by both -/
def ch (n : Nat) (t : TT) (i : Nat) : Int32 := if i < n then t i else -1
def isCap (c : Int32) : Bool := decide (65 ≤ c ∧ c ≤ 90)
def isSml (c : Int32) : Bool := decide (97 ≤ c ∧ c ≤ 122)
def isLet (c : Int32) : Bool := decide ((65 ≤ c ∧ c ≤ 90) ∨ (97 ≤ c ∧ c ≤ 122))
def isBlk (c : Int32) : Bool := decide (c = 32)
def isFig (c : Int32) : Bool := decide (48 ≤ c ∧ c ≤ 57)
def cap (c : Int32) : Int32 := if 97 ≤ c ∧ c ≤ 122 then c - 97 + 65 else c
def sml (c : Int32) : Int32 := if 65 ≤ c ∧ c ≤ 90 then c + 32 else c
def skp (Q : Int32 → Bool) (t : TT) : Nat → Nat → Nat
  | 0, i => i
  | d + 1, i => if Q (t i) then skp Q t d (i + 1) else i
def sk (Q : Int32 → Bool) (n : Nat) (t : TT) (i : Nat) : Nat := skp Q t (n - i) i
theorem sk_ge {Q : Int32 → Bool} {n : Nat} {t : TT} {i : Nat} (h : n ≤ i) : sk Q n t i = i := by
  unfold sk
  rw [show n - i = 0 by omega]
  rfl
theorem sk_lt {Q : Int32 → Bool} {n : Nat} {t : TT} {i : Nat} (h : i < n) : sk Q n t i = if Q (t i) then sk Q n t (i + 1) else i := by
  unfold sk
  rw [show n - i = (n - (i + 1)) + 1 by omega]
  rfl
theorem sk_ind {Q : Int32 → Bool} {n : Nat} {t : TT} : ∀ d i, n - i = d → i ≤ sk Q n t i ∧ (sk Q n t i ≤ n ∨ sk Q n t i = i) ∧ (∀ j, i ≤ j → j < sk Q n t i → j < n ∧ Q (t j) = true) ∧ (sk Q n t i < n → Q (t (sk Q n t i)) = false) := by
  intro d
  induction d with
  | zero =>
    intro i h
    rw [sk_ge (by omega)]
    exact ⟨Nat.le_refl i, .inr rfl, fun j h1 h2 => by omega, fun h => by omega⟩
  | succ d ih =>
    intro i h
    rw [sk_lt (by omega)]
    by_cases hq : Q (t i) = true
    · rw [if_pos hq]
      obtain ⟨a, b, c, e⟩ := ih (i + 1) (by omega)
      refine ⟨by omega, .inl (by omega), fun j h1 h2 => ?_, e⟩
      rcases Nat.eq_or_lt_of_le h1 with h3 | h3
      · subst h3; exact ⟨by omega, hq⟩
      · exact c j (by omega) h2
    · rw [if_neg hq]
      exact ⟨Nat.le_refl i, .inr rfl, fun j h1 h2 => by omega, fun _ => by simpa using hq⟩
theorem sk_all (Q : Int32 → Bool) (n : Nat) (t : TT) (i : Nat) : i ≤ sk Q n t i ∧ (sk Q n t i ≤ n ∨ sk Q n t i = i) ∧ (∀ j, i ≤ j → j < sk Q n t i → j < n ∧ Q (t j) = true) ∧ (sk Q n t i < n → Q (t (sk Q n t i)) = false) := sk_ind (Q := Q) (n := n) (t := t) (n - i) i rfl
theorem sk_loop {Q : Int32 → Bool} {n : Nat} {t : TT} {α : Type} (F : Nat → Int32 → Option α) (g : Nat → Option α) (hs : ∀ f i, i < n → Q (t i) = true → F (f + 1) (nI i) = F f (nI (i + 1))) (he : ∀ f i, i < 1000 → (i < n → Q (t i) = false) → F (f + 1) (nI i) = g i) (hn : n < 1000) : ∀ d i f, n - i = d → d < f → i < 1000 → F f (nI i) = g (sk Q n t i) := by
  intro d
  induction d with
  | zero =>
    intro i f h1 h2 h3
    obtain ⟨f, rfl⟩ : ∃ k, f = k + 1 := ⟨f - 1, by omega⟩
    rw [sk_ge (by omega)]
    exact he f i h3 (fun h => by omega)
  | succ d ih =>
    intro i f h1 h2 h3
    obtain ⟨f, rfl⟩ : ∃ k, f = k + 1 := ⟨f - 1, by omega⟩
    rw [sk_lt (by omega)]
    by_cases hq : Q (t i) = true
    · rw [if_pos hq, hs f i (by omega) hq]
      exact ih (i + 1) f (by omega) (by omega) (by omega)
    · rw [if_neg hq]
      exact he f i h3 (fun _ => by simpa using hq)
/-- the class has this text -/
def TC (m : Mem) (n : Nat) (t : TT) : Prop := m 1 1 = nI n ∧ (∀ j, j < n → m 2 j = t j) ∧ n ≤ 100
def TM (m : Mem) (n : Nat) (t : TT) : Prop := m 111 6 = nI n ∧ (∀ j, j < n → m 116 j = t j) ∧ n ≤ 100
theorem RC.tc {m : Mem} {T : TT} {p : Nat} {P : Nat → TT} {n : Nat} {t q : TT} (h : RC m T p P n t q) (i : IA T p P n t) : TC m n t := ⟨h.2.2.2.2.2.1.1, h.2.2.2.2.2.1.2, i.2.2.2.2.2.1⟩
theorem RM.tm {m : Mem} {T : TT} {p : Nat} {P : Nat → TT} {n : Nat} {t q : TT} (h : RM m T p P n t q) (i : IA T p P n t) : TM m n t := ⟨h.2.2.2.1, h.2.2.2.2.1, i.2.2.2.2.2.1⟩
theorem c_byteAt {m : Mem} {n : Nat} {t : TT} (h : TC m n t) {i : Nat} (hi : i < 1000) : f_X4_byteAt m (nI i) = some (m, ch n t i) := by
  obtain ⟨h1, h2, h3⟩ := h
  unfold f_X4_byteAt ch
  rw [if_neg (nI_pos (by omega)), h1]
  by_cases hl : i < n
  · rw [if_neg (nI_ge hl (by omega)), if_neg (show ¬ (100 : Int32) ≤ nI i from nI_ge (b := 100) (by omega) (by decide)), gd_of (inR_nI (by omega) (by decide)), ix_nI (by omega), if_pos hl, h2 i hl]
  · rw [if_pos (nI_le (by omega) (by omega)), if_neg hl]
theorem cap28 (m : Mem) (c : Int32) : f_X4_capitalAt_28 m c = some (m, cap c) := by
  unfold f_X4_capitalAt_28 cap
  grind
theorem c_capitalAt {m : Mem} {n : Nat} {t : TT} (h : TC m n t) {i : Nat} (hi : i < 1000) : f_X4_capitalAt m (nI i) = some (m, cap (ch n t i)) := by
  obtain ⟨h1, h2, h3⟩ := h
  unfold f_X4_capitalAt f_X4_capitalAt_27 ch
  rw [if_neg (nI_pos (by omega)), h1, cap28]
  by_cases hl : i < n
  · rw [if_neg (nI_ge hl (by omega)), if_neg (show ¬ (100 : Int32) ≤ nI i from nI_ge (b := 100) (by omega) (by decide)), gd_of (inR_nI (by omega) (by decide)), ix_nI (by omega), if_pos hl, h2 i hl, cap28]
  · rw [if_pos (nI_le (by omega) (by omega)), if_neg hl]
theorem c_isCapital (m : Mem) (c : Int32) : f_X8_isCapital m c = some (m, if isCap c = true then 1 else 0) := by
  unfold f_X8_isCapital isCap
  grind
theorem c_isSmall (m : Mem) (c : Int32) : f_X8_isSmall m c = some (m, if isSml c = true then 1 else 0) := by
  unfold f_X8_isSmall isSml
  grind
theorem c_isLetter (m : Mem) (c : Int32) : f_X8_isLetter m c = some (m, if isLet c = true then 1 else 0) := by
  unfold f_X8_isLetter f_X8_isLetter_12 f_X8_isLetter_24 isLet
  grind
theorem c_isFigure (m : Mem) (c : Int32) : f_X8_isFigure m c = some (m, if isFig c = true then 1 else 0) := by
  unfold f_X8_isFigure isFig
  grind
theorem m_isCapital (m : Mem) (c : Int32) : f_X9_isCapital m c = some (m, if isCap c = true then 1 else 0) := by
  unfold f_X9_isCapital isCap
  rw [m_in, bm_some, gd_of isB01]
  simp only [decide_eq_true_eq]
theorem m_isSmall (m : Mem) (c : Int32) : f_X9_isSmall m c = some (m, if isSml c = true then 1 else 0) := by
  unfold f_X9_isSmall isSml
  rw [m_in, bm_some, gd_of isB01]
  simp only [decide_eq_true_eq]
theorem m_isLetter (m : Mem) (c : Int32) : f_X9_isLetter m c = some (m, if isLet c = true then 1 else 0) := by
  unfold f_X9_isLetter f_X9_isLetter_14
  rw [m_isSmall, bm_some, if01, m_isCapital, bm_some, if01]
  unfold isLet isSml isCap
  grind
theorem m_small (m : Mem) (c : Int32) : f_X9_small m c = some (m, sml c) := by
  unfold f_X9_small
  rw [m_isCapital, bm_some, if01]
  unfold isCap sml
  grind
theorem c_past {m : Mem} {n : Nat} {t : TT} (h : TC m n t) {Q : Int32 → Bool} (F : Nat → Mem → Int32 → Option (Mem × Int32)) (hF : ∀ f i, i < 1000 → F (f + 1) m (nI i) = if (m 1 1) ≤ nI i then (some (m, nI i)) else if Q (ch n t i) = true then F f m (nI i + 1) else some (m, nI i)) {N : Nat} (hN : 200 ≤ N) {i : Nat} (hi : i < 1000) : F N m (nI i) = some (m, nI (sk Q n t i)) := by
  have hn := h.2.2
  refine sk_loop (Q := Q) (n := n) (t := t) (fun f x => F f m x) (fun i => some (m, nI i)) (fun f i h1 h2 => ?_) (fun f i h1 h2 => ?_) (by omega) (n - i) i N rfl (by omega) hi
  · rw [hF f i (by omega), h.1, if_neg (nI_ge h1 (by omega)), show ch n t i = t i from if_pos h1, if_pos h2, nI_1]
  · rw [hF f i h1, h.1]
    by_cases hl : i < n
    · rw [if_neg (nI_ge hl (by omega)), show ch n t i = t i from if_pos hl, h2 hl]; rfl
    · rw [if_pos (nI_le (by omega) (by omega))]
theorem c_pastCapitals {m : Mem} {n : Nat} {t : TT} (h : TC m n t) {N : Nat} (hN : 200 ≤ N) {i : Nat} (hi : i < 1000) : f_X4_pastCapitals N m (nI i) = some (m, nI (sk isCap n t i)) := by
  refine c_past h (fun f m x => f_X4_pastCapitals_2 N f m x) (fun f i hi => ?_) hN hi
  show f_X4_pastCapitals_2b N (f_X4_pastCapitals_2 N f) m (nI i) = _
  unfold f_X4_pastCapitals_2b
  rw [c_byteAt h hi, bm_some, c_isCapital, bm_some, if01]
theorem c_pastLetters {m : Mem} {n : Nat} {t : TT} (h : TC m n t) {N : Nat} (hN : 200 ≤ N) {i : Nat} (hi : i < 1000) : f_X4_pastLetters N m (nI i) = some (m, nI (sk isLet n t i)) := by
  refine c_past h (fun f m x => f_X4_pastLetters_2 N f m x) (fun f i hi => ?_) hN hi
  show f_X4_pastLetters_2b N (f_X4_pastLetters_2 N f) m (nI i) = _
  unfold f_X4_pastLetters_2b
  rw [c_byteAt h hi, bm_some, c_isLetter, bm_some, if01]
theorem c_pastBlanks {m : Mem} {n : Nat} {t : TT} (h : TC m n t) {N : Nat} (hN : 200 ≤ N) {i : Nat} (hi : i < 1000) : f_X4_pastBlanks N m (nI i) = some (m, nI (sk isBlk n t i)) := by
  refine c_past h (fun f m x => f_X4_pastBlanks_2 N f m x) (fun f i hi => ?_) hN hi
  show f_X4_pastBlanks_2b N (f_X4_pastBlanks_2 N f) m (nI i) = _
  unfold f_X4_pastBlanks_2b isBlk
  rw [c_byteAt h hi, bm_some]
  simp only [decide_eq_true_eq]
