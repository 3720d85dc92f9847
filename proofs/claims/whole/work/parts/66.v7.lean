theorem m_doCommon {m : Mem} {T : TT} {N k : Nat} {q : Bool} {v : Int32} (hN : 200 ≤ N) (hT : m 112 = T) (hI : IT T) (hc : CW k (m 111 18)) (h19 : m 111 19 = b2i q) (hf : fmR k q = true) (hv : (k = 2 ∨ k = 3) → q = false → m 111 21 = v) : f_X9_doCommon N m = some (setC m 112 (tCom T k q v), 0) ∨ (f_X9_doCommon N m = some (m, -222) ∧ tCom T k q v = tFault T (-222)) := by
  have i12 := hI.2.2.2.1
  have i11 := hI.2.2.1
  have aA : ∀ x, f_X9_addAnswer m x = some (setC m 112 (tAnswer T x), ()) := fun x => by
    have := m_addAnswer m x (by rw [hT]; exact i12) (by rw [hT]; exact i11)
    rw [hT] at this
    exact this
  have mask : ∀ j, j < 4 → (k = j) → (k = 2 ∨ k = 3) → f_X9_doCommon_191 N m (nI j) = some (setC m 112 (tCom T k q v), 0) ∨ (f_X9_doCommon_191 N m (nI j) = some (m, -222) ∧ tCom T k q v = tFault T (-222)) := by
    intro j hj hkj hk
    unfold f_X9_doCommon_191 f_X9_doMask
    simp only [bm_id, h19, gd_of (inR_nI (show j < 347 by omega) (show 347 < 2 ^ 31 by decide)), ix_nI (show j < 2 ^ 31 by omega), hT]
    cases q with
    | true =>
      left
      rw [if_neg (show ¬ b2i true = 0 by decide), aA, bm_some]
      subst hkj
      rcases hk with e | e <;> subst e <;> rfl
    | false =>
      simp only [if_pos (show b2i false = 0 by decide), m_in, bm_some, if01, hv hk rfl, lm_def]
      have et : tCom T k false v = tMask T k v := by rcases hk with e | e <;> subst e <;> rfl
      rw [et]
      unfold tMask
      by_cases z : 0 ≤ v ∧ v ≤ 255
      · left
        rw [if_pos z, if_pos z, up_setC, hT, hkj]
      · right
        rw [if_neg z, if_neg z]
        exact ⟨rfl, rfl⟩
  unfold f_X9_doCommon
  rcases hc with ⟨e, c⟩ | ⟨e, c⟩ | ⟨e, c⟩ | ⟨e, c⟩ | ⟨e, c⟩ | ⟨e, c⟩ | ⟨e, c⟩ | ⟨e, c1, c2, c3, c4, c5, c6, c7⟩
  · left
    subst e
    rw [c, if_pos rfl]
    cases q with
    | true => exact absurd hf (by decide)
    | false =>
      simp only [gd_of (show inR 1 347 = true from rfl), gd_of (show inR 5 347 = true from rfl), gd_of (show inR 12 347 = true from rfl), gd_of (show inR 10 347 = true from rfl), show ix 1 = 1 from rfl, show ix 5 = 5 from rfl, show ix 12 = 12 from rfl, show ix 10 = 10 from rfl, lm_def, up_setC, setC_at, setC_setC, hT]
      rfl
  · rw [c, if_neg (by decide), if_neg (by decide), if_neg (by decide), if_neg (by decide), if_neg (by decide), if_pos rfl]
    exact mask 2 (by decide) e (.inl e)
  · rw [c, if_neg (by decide), if_neg (by decide), if_neg (by decide), if_neg (by decide), if_neg (by decide), if_neg (by decide)]
    exact mask 3 (by decide) e (.inr e)
  · left
    subst e
    rw [c, if_neg (by decide), if_neg (by decide), if_pos rfl]
    cases q with
    | false => exact absurd hf (by decide)
    | true =>
      have := m_addAnswer (setC m 112 (upd T 1 0)) (T 1) (by rw [setC_at]; simp only [upd]; exact i12) (by rw [setC_at]; simp only [upd]; exact i11)
      simp only [gd_of (show inR 1 347 = true from rfl), show ix 1 = 1 from rfl, lm_def, up_setC, hT, this, bm_some, setC_at, setC_setC]
      rfl
  · left
    subst e
    rw [c, if_neg (by decide), if_neg (by decide), if_neg (by decide), if_pos rfl]
    cases q with
    | false => exact absurd hf (by decide)
    | true =>
      rw [m_sum, bm_some, hT, aA, bm_some]
      rfl
  · left
    subst e
    rw [c, if_neg (by decide), if_neg (by decide), if_neg (by decide), if_neg (by decide), if_pos rfl]
    unfold f_X9_doOver f_X9_doOver_23
    rw [h19]
    simp only [gd_of (show inR 9 347 = true from rfl), gd_of (show inR 10 347 = true from rfl), gd_of (show inR 1 347 = true from rfl), show ix 9 = 9 from rfl, show ix 10 = 10 from rfl, show ix 1 = 1 from rfl, lm_def, hT, aA, bm_some, up_setC]
    cases q with
    | true =>
      rw [if_neg (show ¬ b2i true = 0 by decide)]
      unfold tCom
      by_cases z : T 9 = 0
      · simp only [if_pos z, bm_some]; rfl
      · simp only [if_neg z, bm_some]; rfl
    | false =>
      rw [if_pos (show b2i false = 0 by decide)]
      have et : tCom T 6 false v = tOver T := rfl
      rw [et]
      unfold tOver
      by_cases z : T 9 = 0
      · rw [if_pos z, if_pos z, bm_some]
      · rw [if_neg z, if_neg z, bm_some]
  · left
    subst e
    rw [c, if_neg (by decide), if_pos rfl]
    cases q with
    | true => exact absurd hf (by decide)
    | false => exact m_rst hN hT hI
  · subst e
    cases q <;> exact absurd hf (by decide)
