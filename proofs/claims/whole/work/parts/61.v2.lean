/-! what units do to a state -/
def tClr (T : TT) : TT := upd (upd (upd (upd T 1 0) 5 0) 12 0) 10 0
def tOver (T : TT) : TT := if T 9 = 0 then upd T 1 (T 1 ||| 1) else upd T 10 1
def tMask (T : TT) (k : Nat) (v : Int32) : TT := if 0 ≤ v ∧ v ≤ 255 then upd T k v else tFault T (-222)
/-- only the state block moved -/
def SF (m m' : Mem) : Prop := ∀ k, (k < 43 ∨ 53 < k) → m' k = m k
theorem SF.rf {m : Mem} : SF m m := fun _ _ => rfl
theorem SF.tr {a b c : Mem} (h : SF a b) (g : SF b c) : SF a c := fun k hk => (g k hk).trans (h k hk)
theorem SF.u {m : Mem} {c j : Nat} {v : Int32} (h : 43 ≤ c ∧ c ≤ 53) : SF m (up m c j v) := fun k hk => up_ne (by omega)
theorem c_clr {m : Mem} {T : TT} (h : RSt m 43 T) : ∃ m', f_X3_clearStatus 43 m = some (m', ()) ∧ RSt m' 43 (tClr T) ∧ SF m m' := by
  unfold f_X3_clearStatus
  simp only [lm_def]
  exact ⟨_, rfl, RS_10 0 (RS_12 0 (RS_5 0 (RS_1 0 h))), (((SF.u (by omega)).tr (SF.u (by omega))).tr (SF.u (by omega))).tr (SF.u (by omega))⟩
theorem c_over {m : Mem} {T : TT} (h : RSt m 43 T) : ∃ m', f_X3_tellWhenOver 43 m = some (m', ()) ∧ RSt m' 43 (tOver T) ∧ SF m m' := by
  unfold f_X3_tellWhenOver tOver
  have e9 : m (43 + 9) 1 = T 9 := h.1.2.2.2.2.2.2.2.2.2.1
  have e8 : m 43 8 = T 1 := h.1.2.1
  rw [e9, e8]
  by_cases q : T 9 = 0
  · rw [if_pos q, if_pos q, lm_def]
    exact ⟨_, rfl, RS_1 _ h, SF.u (by omega)⟩
  · rw [if_neg q, if_neg q, lm_def]
    exact ⟨_, rfl, RS_10 _ h, SF.u (by omega)⟩
theorem c_mask {m : Mem} {T : TT} (h : RSt m 43 T) (hI : 0 ≤ T 12 ∧ T 12 ≤ 4) {k : Nat} (hk : k = 2 ∨ k = 3) (v : Int32) : ∃ m', f_X3_setByteMask 43 m (nI k) v = some (m', ()) ∧ RSt m' 43 (tMask T k v) ∧ SF m m' := by
  unfold f_X3_setByteMask tMask
  rw [c_within, bm_some, if01]
  by_cases q : 0 ≤ v ∧ v ≤ 255
  · rw [if_pos q, if_pos q]
    rcases hk with hk | hk <;> subst hk
    · exact ⟨_, rfl, RS_2 v h, SF.u (by omega)⟩
    · exact ⟨_, rfl, RS_3 v h, SF.u (by omega)⟩
  · rw [if_neg q, if_neg q]
    obtain ⟨m', a1, a2, a3⟩ := c_raise m T (-222) h hI
    rw [a1, bm_some]
    exact ⟨m', rfl, a2, a3⟩
/-- all value nodes lowered, from node 0 up to x -/
def tLow (T : TT) : Nat → TT
  | 0 => T
  | x + 1 => if tLow T x (27 + 20 * x + 1) = 1 then tSetAll (tLow T x) x else tLow T x
def tRst (T : TT) : TT := upd (upd (tLow T (ix (T 0))) 9 0) 10 0
theorem tLow_ne {T : TT} : ∀ x j, (j < 27 ∨ ∃ n w, j = 27 + 20 * n + w ∧ w < 20 ∧ (w < 6 ∨ 9 ≤ w)) → tLow T x j = T j := by
  intro x
  induction x with
  | zero => intro j _; rfl
  | succ x ih =>
    intro j hj
    unfold tLow
    by_cases q : tLow T x (27 + 20 * x + 1) = 1
    · rw [if_pos q]
      unfold tSetAll upd
      rw [if_neg, if_neg, if_neg]
      · exact ih j hj
      · rcases hj with hj | ⟨n, w, e, h1, h2⟩ <;> omega
      · rcases hj with hj | ⟨n, w, e, h1, h2⟩ <;> omega
      · rcases hj with hj | ⟨n, w, e, h1, h2⟩ <;> omega
    · rw [if_neg q]
      exact ih j hj
theorem tLow_ID {T : TT} (d : ID T) : ∀ x, x ≤ 16 → ID (tLow T x) := by
  intro x
  induction x with
  | zero => intro _; exact d
  | succ x ih =>
    intro hx
    have dx := ih (by omega)
    unfold tLow
    by_cases q : tLow T x (27 + 20 * x + 1) = 1
    · rw [if_pos q]
      obtain ⟨d1, d2, d3, d4, d5⟩ := dx
      have f : ∀ k, (k < 27 + 20 * x + 6 ∨ 27 + 20 * x + 8 < k) → tSetAll (tLow T x) x k = tLow T x k := fun k hk => by
        unfold tSetAll upd
        rw [if_neg (by omega), if_neg (by omega), if_neg (by omega)]
      refine ⟨by rw [f _ (by omega)]; exact d1, by rw [f _ (by omega)]; exact d2, by rw [f _ (by omega)]; exact d3, by rw [f _ (by omega)]; exact d4, fun n hn hh => ?_⟩
      rw [f _ (by omega)] at hh
      have hne : n ≠ x := fun z => hh (by rw [z]; exact q)
      rw [f _ (by omega), f _ (by omega), f _ (by omega), f _ (by omega)]
      exact d5 n hn hh
    · rw [if_neg q]
      exact dx
theorem tSetAll_id {T : TT} (d : ID T) {x : Nat} (hx : x < 16) (h : T (27 + 20 * x + 1) ≠ 1) : tSetAll T x = T := by
  obtain ⟨e4, e6, e7, e8⟩ := d.2.2.2.2 x hx h
  funext j
  unfold tSetAll upd
  rw [e4]
  by_cases q8 : j = 27 + 20 * x + 8
  · rw [if_pos q8, q8, e8]
  by_cases q7 : j = 27 + 20 * x + 7
  · rw [if_neg q8, if_pos q7, q7, e7]
  by_cases q6 : j = 27 + 20 * x + 6
  · rw [if_neg q8, if_neg q7, if_pos q6, q6, e6]
  rw [if_neg q8, if_neg q7, if_neg q6]
theorem c_rst {m : Mem} {T : TT} {N : Nat} (hN : 200 ≤ N) (hI : IT T) (h : RSt m 43 T) : ∃ m', f_X3_reset N 43 m = some (m', ()) ∧ RSt m' 43 (tRst T) ∧ SF m m' := by
  obtain ⟨j0, hj, ej⟩ := rng (b := 16) (x := T 0) (by decide) (by have := hI.1; grind) hI.1.2
  have ei : ix (T 0) = j0 := by rw [ej, ix_nI (by omega)]
  have g : ∀ d x f M, x + d = j0 → d < f → RSt M 43 (tLow T x) → ∃ m', f_X3_reset_2 N 43 f M (nI x) = some (m', ()) ∧ RSt m' 43 (tRst T) ∧ SF M m' := by
    intro d
    induction d with
    | zero =>
      intro x f M h1 h2 r
      obtain ⟨f, rfl⟩ : ∃ k, f = k + 1 := ⟨f - 1, by omega⟩
      show ∃ m', f_X3_reset_2b N 43 (f_X3_reset_2 N 43 f) M (nI x) = _ ∧ _
      unfold f_X3_reset_2b f_X3_reset_27
      have e0 : M 43 0 = nI j0 := by rw [r.1.1, tLow_ne x 0 (by omega), ej]
      rw [e0, if_pos (nI_le (by omega) (by omega)), lm_def, lm_def]
      refine ⟨_, rfl, ?_, (SF.u (by omega)).tr (SF.u (by omega))⟩
      unfold tRst
      rw [ei, ← show x = j0 by omega]
      exact RS_10 0 (RS_9 0 r)
    | succ d ih =>
      intro x f M h1 h2 r
      obtain ⟨f, rfl⟩ : ∃ k, f = k + 1 := ⟨f - 1, by omega⟩
      show ∃ m', f_X3_reset_2b N 43 (f_X3_reset_2 N 43 f) M (nI x) = _ ∧ _
      unfold f_X3_reset_2b
      have e0 : M 43 0 = nI j0 := by rw [r.1.1, tLow_ne x 0 (by omega), ej]
      rw [e0, if_neg (nI_ge (by omega) (by omega)), if_neg (show ¬ (16 : Int32) ≤ nI x from nI_ge (b := 16) (by omega) (by decide)), c_lowerN N (by omega) M 43 (show x < 16 by omega), bm_some, nI_1]
      have r2 := RSt_setAll r (show x < 16 by omega)
      have e : tLow T (x + 1) = tSetAll (tLow T x) x := by
        show (if tLow T x (27 + 20 * x + 1) = 1 then _ else _) = _
        by_cases q : tLow T x (27 + 20 * x + 1) = 1
        · rw [if_pos q]
        · rw [if_neg q, tSetAll_id (tLow_ID hI.id x (by omega)) (by omega) q]
      rw [← e] at r2
      obtain ⟨m', a1, a2, a3⟩ := ih (x + 1) f _ (by omega) (by omega) r2
      exact ⟨m', a1, a2, (((SF.u (by omega)).tr (SF.u (by omega))).tr (SF.u (by omega))).tr a3⟩
  unfold f_X3_reset
  exact g j0 0 N m (by omega) (by omega) h
