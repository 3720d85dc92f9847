theorem m_rst {m : Mem} {T : TT} {N : Nat} (hN : 200 ≤ N) (hT : m 112 = T) (hI : IT T) : f_X9_doCommon_55 N N m 1 = some (setC m 112 (tRst T), 0) := by
  obtain ⟨j0, hj, ej⟩ := rng (b := 16) (x := T 0) (by decide) (by have := hI.1; grind) hI.1.2
  have hj1 : 1 ≤ j0 := by
    rcases Nat.eq_zero_or_pos j0 with z | z
    · subst z; have := hI.1.1; rw [ej] at this; exact absurd this (by decide)
    · exact z
  have ei : ix (T 0) = j0 := by rw [ej, ix_nI (by omega)]
  have t1 : tLow T 1 = T := by
    show (if T (27 + 20 * 0 + 1) = 1 then _ else T) = T
    rw [if_neg]
    rw [show T (27 + 20 * 0 + 1) = 0 from hI.2.2.2.2.2.1.2.1]
    decide
  have h := loopFr 1 (fun f m x => f_X9_doCommon_55 N f m x) j0 (fun M => some (setC M 112 (upd (upd (M 112) 9 0) 10 0), (0 : Int32))) (fun x => setC m 112 (tLow T x)) ?_ ?_ (j0 - 1) 1 N (by omega) (by omega) (by omega)
  · rw [t1, show setC m 112 T = m by rw [← hT, setC_self]] at h
    refine (show f_X9_doCommon_55 N N m 1 = _ from h).trans ?_
    rw [setC_at, setC_setC]
    unfold tRst
    rw [ei]
  · intro f x h1 h2
    show f_X9_doCommon_55b N (f_X9_doCommon_55 N f) _ _ = _
    unfold f_X9_doCommon_55b f_X9_doCommon_80
    have e0 : tLow T x 0 = nI j0 := by rw [tLow_ne x 0 (by omega), ej]
    rw [gd_of (show inR 0 347 = true from rfl), show ix 0 = 0 from rfl, setC_at, e0, if_neg (nI_ge h2 (by omega)), show f_X9_ofNode (setC m 112 (tLow T x)) (nI x) 1 = some (setC m 112 (tLow T x), setC m 112 (tLow T x) 112 (27 + 20 * x + 1)) from m_ofNode _ (show x < 16 by omega) (w := 1) (by decide), bm_some, setC_at, nI_1]
    have el : tLow T (x + 1) = if tLow T x (27 + 20 * x + 1) = 1 then tSetAll (tLow T x) x else tLow T x := rfl
    rw [el]
    by_cases q : tLow T x (27 + 20 * x + 1) = 1
    · rw [if_pos q, if_pos q, m_setAll N (by omega) _ (show x < 16 by omega), bm_some, setC_at, setC_setC]
    · rw [if_neg q, if_neg q]
  · intro f
    show f_X9_doCommon_55b N (f_X9_doCommon_55 N f) _ _ = _
    unfold f_X9_doCommon_55b
    have e0 : tLow T j0 0 = nI j0 := by rw [tLow_ne j0 0 (by omega), ej]
    rw [gd_of (show inR 0 347 = true from rfl), show ix 0 = 0 from rfl, setC_at, e0, if_pos (nI_le (Nat.le_refl j0) (by omega)), gd_of (show inR 9 347 = true from rfl), lm_def, gd_of (show inR 10 347 = true from rfl), lm_def, show ix 9 = 9 from rfl, show ix 10 = 10 from rfl]
    simp only [up_setC, setC_at, setC_setC]
