/-! copying loops -/
theorem loopUp {α : Type} (F : Nat → Mem → Int32 → Option α) (B : Nat) (st : Mem → Nat → Mem) (fin : Mem → Option α) (J : Nat → Mem) (hs : ∀ f i, i < B → F (f + 1) (J i) (nI i) = F f (J (i + 1)) (nI (i + 1))) (he : ∀ f, F (f + 1) (J B) (nI B) = fin (J B)) : ∀ d i f, i + d = B → d < f → F f (J i) (nI i) = fin (J B) := by
  intro d
  induction d with
  | zero =>
    intro i f h1 h2
    obtain ⟨f, rfl⟩ : ∃ k, f = k + 1 := ⟨f - 1, by omega⟩
    rw [show i = B by omega]
    exact he f
  | succ d ih =>
    intro i f h1 h2
    obtain ⟨f, rfl⟩ : ∃ k, f = k + 1 := ⟨f - 1, by omega⟩
    rw [hs f i (by omega)]
    exact ih (i + 1) f (by omega) (by omega)
theorem m_hold (N : Nat) (hN : 348 ≤ N) (m : Mem) : f_X9_hold N m = some (setC m 113 (fun j => if j < 347 then m 112 j else m 113 j), ()) := by
  have h := loopUp (fun f m x => f_X9_hold_2 N f m x) 347 (fun m _ => m) (fun m => some (m, ())) (fun i => setC m 113 (fun j => if j < i then m 112 j else m 113 j)) ?_ ?_ 347 0 N rfl (by omega)
  · have e : setC m 113 (fun j => if j < 0 then m 112 j else m 113 j) = m := by simp [setC_self]
    unfold f_X9_hold
    simp only [e] at h
    exact h
  · intro f i hi
    show f_X9_hold_2b N (f_X9_hold_2 N f) _ _ = _
    unfold f_X9_hold_2b
    rw [if_neg (show ¬ (347 : Int32) ≤ nI i from nI_ge (b := 347) hi (by decide)), gd_of (inR_nI hi (by decide)), gd_of (inR_nI hi (by decide)), ix_nI (by omega), lm_def, nI_1, up_setC, setC_at, setC_setC, setC_ne (by decide)]
    congr 2
    funext j
    simp only [upd]
    grind
  · intro f
    show f_X9_hold_2b N (f_X9_hold_2 N f) _ _ = _
    unfold f_X9_hold_2b
    rw [if_pos (by decide)]
theorem m_push51 (N : Nat) (hN : 348 ≤ N) (m : Mem) (p : Nat) (hp : p < 5) (h : m 111 3 = nI p) : f_X9_push_51 N N m 0 = some (up (setC m 114 (fun j => if 347 * p ≤ j ∧ j < 347 * p + 347 then m 113 (j - 347 * p) else m 114 j)) 111 3 (nI (p + 1)), ()) := by
  have h := loopUp (fun f m x => f_X9_push_51 N f m x) 347 (fun m _ => m) (fun m => some (up m 111 3 (nI (p + 1)), ())) (fun i => setC m 114 (fun j => if 347 * p ≤ j ∧ j < 347 * p + i then m 113 (j - 347 * p) else m 114 j)) ?_ ?_ 347 0 N rfl (by omega)
  · have e : setC m 114 (fun j => if 347 * p ≤ j ∧ j < 347 * p + 0 then m 113 (j - 347 * p) else m 114 j) = m := by
      have : (fun j => if 347 * p ≤ j ∧ j < 347 * p + 0 then m 113 (j - 347 * p) else m 114 j) = m 114 := by
        funext j
        rw [if_neg (by omega)]
      rw [this, setC_self]
    simp only [e] at h
    exact h
  · intro f i hi
    show f_X9_push_51b N (f_X9_push_51 N f) _ _ = _
    unfold f_X9_push_51b
    have e1 : (347 : Int32) * nI p + nI i = nI (347 * p + i) := by rw [show (347 : Int32) = nI 347 from rfl, pk_mul, nI_add]
    rw [if_neg (show ¬ (347 : Int32) ≤ nI i from nI_ge (b := 347) hi (by decide)), gd_of (inR_nI hi (by decide)), setC_ne (by decide), h, e1, gd_of (inR_nI (by omega) (by decide)), ix_nI (by omega), ix_nI (by omega), lm_def, nI_1, up_setC, setC_at, setC_setC, setC_ne (by decide)]
    congr 2
    funext j
    simp only [upd]
    by_cases hj : j = 347 * p + i
    · subst hj
      rw [if_pos rfl, if_pos (by omega)]
      congr 1
      omega
    · rw [if_neg hj]
      by_cases h2 : 347 * p ≤ j ∧ j < 347 * p + i
      · rw [if_pos h2, if_pos (by omega)]
      · rw [if_neg h2, if_neg (by omega)]
  · intro f
    show f_X9_push_51b N (f_X9_push_51 N f) _ _ = _
    unfold f_X9_push_51b
    rw [if_pos (by decide), lm_def, setC_ne (by decide), h, nI_1]
theorem m_push10 (N : Nat) (hN : 1389 ≤ N) (m : Mem) (h : m 111 3 = nI 5) : f_X9_push_10 N N m 0 = f_X9_push_49 N (up (setC m 114 (fun j => if j < 1388 then m 114 (j + 347) else m 114 j)) 111 3 (nI 4)) := by
  have h := loopUp (fun f m x => f_X9_push_10 N f m x) 1388 (fun m _ => m) (fun m => f_X9_push_49 N (up m 111 3 (nI 4))) (fun i => setC m 114 (fun j => if j < i then m 114 (j + 347) else m 114 j)) ?_ ?_ 1388 0 N rfl (by omega)
  · have e : setC m 114 (fun j => if j < 0 then m 114 (j + 347) else m 114 j) = m := by simp [setC_self]
    simp only [e] at h
    exact h
  · intro f i hi
    show f_X9_push_10b N (f_X9_push_10 N f) _ _ = _
    unfold f_X9_push_10b
    have e1 : nI i + (347 : Int32) = nI (i + 347) := by rw [show (347 : Int32) = nI 347 from rfl, nI_add]
    rw [if_neg (show ¬ (1388 : Int32) ≤ nI i from nI_ge (b := 1388) hi (by decide)), e1, gd_of (inR_nI (by omega) (by decide)), gd_of (inR_nI (by omega) (by decide)), ix_nI (by omega), ix_nI (by omega), lm_def, nI_1, up_setC, setC_at, setC_setC]
    congr 2
    funext j
    simp only [upd]
    grind
  · intro f
    show f_X9_push_10b N (f_X9_push_10 N f) _ _ = _
    unfold f_X9_push_10b
    rw [if_pos (by decide), lm_def, setC_ne (by decide), h]
    rfl
theorem m_back27 (N : Nat) (hN : 348 ≤ N) (m : Mem) (p : Nat) (hp : p < 5) (h : m 111 3 = nI p) : f_X9_back_27 N N m 0 = some (setC m 112 (fun j => if j < 347 then m 114 (347 * p + j) else m 112 j), nI p) := by
  have h := loopUp (fun f m x => f_X9_back_27 N f m x) 347 (fun m _ => m) (fun m => some (m, m 111 3)) (fun i => setC m 112 (fun j => if j < i then m 114 (347 * p + j) else m 112 j)) ?_ ?_ 347 0 N rfl (by omega)
  · have e : setC m 112 (fun j => if j < 0 then m 114 (347 * p + j) else m 112 j) = m := by simp [setC_self]
    simp only [e] at h
    refine h.trans ?_
    rw [setC_ne (by decide)]
    rename_i h0
    rw [h0]
  · intro f i hi
    show f_X9_back_27b N (f_X9_back_27 N f) _ _ = _
    unfold f_X9_back_27b
    have e1 : (347 : Int32) * nI p + nI i = nI (347 * p + i) := by rw [show (347 : Int32) = nI 347 from rfl, pk_mul, nI_add]
    rw [if_neg (show ¬ (347 : Int32) ≤ nI i from nI_ge (b := 347) hi (by decide)), setC_ne (by decide), h, e1, gd_of (inR_nI (by omega) (by decide)), gd_of (inR_nI hi (by decide)), ix_nI (by omega), ix_nI (by omega), lm_def, nI_1, up_setC, setC_at, setC_setC, setC_ne (by decide)]
    congr 2
    funext j
    simp only [upd]
    grind
  · intro f
    show f_X9_back_27b N (f_X9_back_27 N f) _ _ = _
    unfold f_X9_back_27b
    rw [if_pos (by decide)]
