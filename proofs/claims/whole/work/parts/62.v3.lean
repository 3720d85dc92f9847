def tCom (T : TT) (k : Nat) (q : Bool) (v : Int32) : TT := if q = true then (if k = 2 then tAnswer T (T 2) else if k = 3 then tAnswer T (T 3) else if k = 4 then tAnswer (upd T 1 0) (T 1) else if k = 5 then tAnswer T (tSum T) else tAnswer T (if T 9 = 0 then 1 else 0)) else (if k = 1 then tClr T else if k = 6 then tOver T else if k = 7 then tRst T else tMask T k v)
/-- which words have which form -/
def fmR (k : Nat) (q : Bool) : Bool := (k == 1 && !q) || (k == 7 && !q) || (k == 4 && q) || (k == 5 && q) || k == 2 || k == 3 || k == 6
theorem c_ans {m : Mem} {T : TT} (h : RSt m 43 T) (hI : IT T) {k : Nat} (hk : fmR k true = true) (v : Int32) : ∃ m', bm (f_X3_commonAnswer 43 m (nI k)) (fun m3 r3 => bm (f_X3_reply 43 m3 r3) (fun m4 _ => some (m4, (0 : Int32)))) = some (m', 0) ∧ RSt m' 43 (tCom T k true v) ∧ SF m m' := by
  have i12 := hI.2.2.2.1
  have i11 := hI.2.2.1
  have e1 : m 43 8 = T 1 := h.1.2.1
  have e2 : m 43 9 = T 2 := h.1.2.2.1
  have e3 : m 43 10 = T 3 := h.1.2.2.2.1
  have e9 : m 52 1 = T 9 := h.1.2.2.2.2.2.2.2.2.2.1
  have rp : ∀ x, ∃ m', bm (f_X3_reply 43 m x) (fun m4 _ => some (m4, (0 : Int32))) = some (m', 0) ∧ RSt m' 43 (tAnswer T x) ∧ SF m m' := by
    intro x
    obtain ⟨m', a1, a2, a3⟩ := c_reply m T x h i12 i11
    rw [a1, bm_some]
    exact ⟨m', rfl, a2, a3⟩
  rcases (show k = 2 ∨ k = 3 ∨ k = 4 ∨ k = 5 ∨ k = 6 by
    unfold fmR at hk
    simp at hk
    omega) with e | e | e | e | e <;> subst e
  · show ∃ m', bm (some (m, m 43 9)) _ = _ ∧ _
    rw [bm_some, e2]
    exact rp _
  · show ∃ m', bm (some (m, m 43 10)) _ = _ ∧ _
    rw [bm_some, e3]
    exact rp _
  · show ∃ m', bm (bm (some (up m 43 8 0, m 43 8)) (fun m1 r1 => some (m1, r1))) _ = _ ∧ _
    rw [bm_some, bm_some, e1]
    have r1 := RS_1 0 h
    obtain ⟨m', a1, a2, a3⟩ := c_reply (up m 43 8 0) (upd T 1 0) (T 1) r1 (by simp only [upd]; exact i12) (by simp only [upd]; exact i11)
    rw [a1, bm_some]
    exact ⟨m', rfl, a2, SF.tr (SF.u (by omega)) a3⟩
  · show ∃ m', bm (bm (f_X3_sum 43 m) (fun m2 r2 => some (m2, r2))) _ = _ ∧ _
    rw [c_sum m T h, bm_some, bm_some]
    exact rp _
  · show ∃ m', bm (if m 52 1 = 0 then some (m, 1) else some (m, 0)) _ = _ ∧ _
    rw [e9]
    by_cases q : T 9 = 0
    · rw [if_pos q, bm_some]
      have := rp 1
      unfold tCom
      simp only [if_pos q]
      exact this
    · rw [if_neg q, bm_some]
      have := rp 0
      unfold tCom
      simp only [if_neg q]
      exact this
theorem c_obey {m : Mem} {T : TT} {N : Nat} (hN : 200 ≤ N) (h : RSt m 43 T) (hI : IT T) {k : Nat} (hk : fmR k false = true) (v : Int32) : ∃ m', bm (f_X3_obeyCommon N 43 m (nI k) v) (fun m2 _ => some (m2, (0 : Int32))) = some (m', 0) ∧ RSt m' 43 (tCom T k false v) ∧ SF m m' := by
  have i12 := hI.2.2.2.1
  rcases (show k = 1 ∨ k = 2 ∨ k = 3 ∨ k = 6 ∨ k = 7 by
    unfold fmR at hk
    simp at hk
    omega) with e | e | e | e | e <;> subst e
  · show ∃ m', bm (bm (f_X3_clearStatus 43 m) (fun m1 _ => some (m1, ()))) _ = _ ∧ _
    obtain ⟨m', a1, a2, a3⟩ := c_clr h
    rw [a1, bm_some, bm_some]
    exact ⟨m', rfl, a2, a3⟩
  · show ∃ m', bm (bm (f_X3_setByteMask 43 m (nI 2) v) (fun m1 _ => some (m1, ()))) _ = _ ∧ _
    obtain ⟨m', a1, a2, a3⟩ := c_mask h i12 (k := 2) (.inl rfl) v
    rw [a1, bm_some, bm_some]
    exact ⟨m', rfl, a2, a3⟩
  · show ∃ m', bm (bm (f_X3_setByteMask 43 m (nI 3) v) (fun m1 _ => some (m1, ()))) _ = _ ∧ _
    obtain ⟨m', a1, a2, a3⟩ := c_mask h i12 (k := 3) (.inr rfl) v
    rw [a1, bm_some, bm_some]
    exact ⟨m', rfl, a2, a3⟩
  · show ∃ m', bm (bm (f_X3_tellWhenOver 43 m) (fun m1 _ => some (m1, ()))) _ = _ ∧ _
    obtain ⟨m', a1, a2, a3⟩ := c_over h
    rw [a1, bm_some, bm_some]
    exact ⟨m', rfl, a2, a3⟩
  · show ∃ m', bm (bm (f_X3_reset N 43 m) (fun m1 _ => some (m1, ()))) _ = _ ∧ _
    obtain ⟨m', a1, a2, a3⟩ := c_rst hN hI h
    rw [a1, bm_some, bm_some]
    exact ⟨m', rfl, a2, a3⟩
/-- the fault that ends the message, for a common word -/
def ftR (k : Nat) (q : Bool) (hv : Bool) : Int32 := if fmR k q = false then -113 else if hv = true ∧ ¬ ((k = 2 ∨ k = 3) ∧ q = false) then -108 else if ((k = 2 ∨ k = 3) ∧ q = false) ∧ hv = false then -109 else 0
theorem c_hasForm (m : Mem) {k : Nat} (hk : k < 8) (q : Bool) : f_X8_hasForm m (nI k) (b2i q) = some (m, b2i (fmR k q)) := by
  unfold f_X8_hasForm f_X8_hasForm_44
  rcases (show k = 0 ∨ k = 1 ∨ k = 2 ∨ k = 3 ∨ k = 4 ∨ k = 5 ∨ k = 6 ∨ k = 7 by omega) with e | e | e | e | e | e | e | e <;> subst e <;> cases q <;> rfl
theorem c_vf {m : Mem} {q hv w : Bool} (h6 : m 38 6 = b2i q) (h7 : m 38 7 = b2i hv) : f_X6_valueFault m (b2i w) = some (m, if hv = true ∧ ¬ (w = true ∧ q = false) then -108 else if (w = true ∧ q = false) ∧ hv = false then -109 else 0) := by
  unfold f_X6_valueFault f_X6_valueFault_15 f_X6_valueFault_16 f_X6_valueFault_31
  rw [h6, h7]
  cases q <;> cases hv <;> cases w <;> rfl
