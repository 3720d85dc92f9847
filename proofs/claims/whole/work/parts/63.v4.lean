theorem cwR_lt (n : Nat) (t : TT) (s h : Nat) : cwR n t s h < 8 := by
  unfold cwR
  repeat' split
  all_goals decide
theorem OV_7 {m : Mem} {ov : Option Int32} (h : OV m ov) : m 38 7 = b2i ov.isSome := by
  cases ov with
  | none => exact h
  | some v => exact h.1
theorem c_perfC {m : Mem} {n : Nat} {t T : TT} {N : Nat} (hN : 200 ≤ N) (ht : TC m n t) (hr : RSt m 43 T) (hI : IT T) {s e : Nat} {q : Bool} {ov : Option Int32} (h4 : m 38 4 = nI s) (h5 : m 38 5 = nI e) (hse : s ≤ e) (he : e ≤ 300) (h6 : m 38 6 = b2i q) (ho : OV m ov) : ∃ m', f_X8_performCommon N m = some (m', ftR (cwR n t s e) q ov.isSome) ∧ RSt m' 43 (if ftR (cwR n t s e) q ov.isSome = 0 then tCom T (cwR n t s e) q (ov.getD 0) else T) ∧ SF m m' := by
  unfold f_X8_performCommon f_X8_performCommon_43
  rw [c_commonWord hN ht h4 h5 hse he, bm_some, h6, c_hasForm m (cwR_lt n t s e), bm_some]
  generalize hk : cwR n t s e = k at *
  have hk8 : k < 8 := by rw [← hk]; exact cwR_lt n t s e
  have h7 := OV_7 ho
  have body : ∀ w : Bool, fmR k q = true → (w = true ↔ (k = 2 ∨ k = 3)) → ∃ m', f_X8_performCommon_48 N m (nI k) (b2i w) = some (m', ftR k q ov.isSome) ∧ RSt m' 43 (if ftR k q ov.isSome = 0 then tCom T k q (ov.getD 0) else T) ∧ SF m m' := by
    intro w hf hw
    unfold f_X8_performCommon_48
    rw [c_vf h6 h7, bm_some]
    have eft : ftR k q ov.isSome = (if ov.isSome = true ∧ ¬ (w = true ∧ q = false) then -108 else if (w = true ∧ q = false) ∧ ov.isSome = false then -109 else 0) := by
      unfold ftR
      rw [hf, if_neg (by decide)]
      simp only [hw]
    rw [← eft]
    by_cases hz : ftR k q ov.isSome = 0
    · rw [if_pos hz, if_pos hz, h6]
      cases q with
      | true =>
        rw [if_neg (show ¬ b2i true = 0 by decide), hz]
        exact c_ans hr hI hf (ov.getD 0)
      | false =>
        rw [if_pos (show b2i false = 0 by decide), hz]
        obtain ⟨m', a1, a2, a3⟩ := c_obey hN hr hI hf (m 38 8)
        refine ⟨m', a1, ?_, a3⟩
        have ev : tCom T k false (m 38 8) = tCom T k false (ov.getD 0) := by
          cases ov with
          | some v => rw [ho.2]; rfl
          | none =>
            have hnw : ¬ (k = 2 ∨ k = 3) := by
              intro hkk
              rw [eft] at hz
              simp [hw.mpr hkk] at hz
            unfold tCom
            have : k = 1 ∨ k = 6 ∨ k = 7 := by
              unfold fmR at hf
              simp at hf
              omega
            rcases this with e | e | e <;> subst e <;> rfl
        rw [← ev]
        exact a2
    · rw [if_neg hz, if_neg hz]
      exact ⟨m, rfl, hr, SF.rf⟩
  cases hf : fmR k q with
  | false =>
    rw [if_pos (show b2i false = 0 by decide)]
    have e : ftR k q ov.isSome = -113 := by unfold ftR; rw [hf]; rfl
    rw [e, if_neg (by decide)]
    exact ⟨m, rfl, hr, SF.rf⟩
  | true =>
    rw [if_neg (show ¬ b2i true = 0 by decide)]
    by_cases k2 : k = 2
    · rw [if_pos (show nI k = (2 : Int32) by rw [k2]; rfl)]
      exact body true hf ⟨fun _ => .inl k2, fun _ => rfl⟩
    · rw [if_neg (show ¬ nI k = (2 : Int32) from fun z => k2 ((nI_eq (b := 2) (by omega) (by decide)).mp z))]
      by_cases k3 : k = 3
      · rw [if_pos (show nI k = (3 : Int32) by rw [k3]; rfl)]
        exact body true hf ⟨fun _ => .inr k3, fun _ => rfl⟩
      · rw [if_neg (show ¬ nI k = (3 : Int32) from fun z => k3 ((nI_eq (b := 3) (by omega) (by decide)).mp z))]
        exact body false hf ⟨fun z => by simp at z, fun z => by omega⟩
