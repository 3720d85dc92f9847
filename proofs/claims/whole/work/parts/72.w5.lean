/-! what a unit leaves: the tree, and the bounds -/
def KP (T T' : TT) : Prop := SS T T' ∧ ID T'
theorem KP.rf {T : TT} (h : IT T) : KP T T := ⟨SS.rf, h.id⟩
theorem KP.it {T T' : TT} (h : IT T) (k : KP T T') : IT T' := h.of k.1 k.2
theorem KP.tr {A B C : TT} (h : KP A B) (g : KP B C) : KP A C := ⟨h.1.tr g.1, g.2⟩
theorem KP_fault {T : TT} (h : IT T) (c : Int32) : KP T (tFault T c) := ⟨SS_fault h.2.2.2.1, ID_fault h.id⟩
theorem KP_answer {T : TT} (h : IT T) (v : Int32) : KP T (tAnswer T v) := ⟨SS_answer h.2.2.2.1 h.2.2.1, ID_answer h.id⟩
theorem KP_com {T : TT} (h : IT T) {k : Nat} {q : Bool} (v : Int32) (hf : fmR k q = true) : KP T (tCom T k q v) := by
  unfold tCom
  cases q with
  | true =>
    rw [if_pos (show true = true from rfl)]
    by_cases k2 : k = 2
    · rw [if_pos k2]; exact KP_answer h _
    rw [if_neg k2]
    by_cases k3 : k = 3
    · rw [if_pos k3]; exact KP_answer h _
    rw [if_neg k3]
    by_cases k4 : k = 4
    · rw [if_pos k4]
      have k0 : KP T (upd T 1 0) := ⟨SS_lo (by decide) (by decide), ID_lo h.id (by decide) (by decide) (by decide) (by decide) (by decide)⟩
      exact k0.tr (KP_answer (k0.it h) _)
    rw [if_neg k4]
    by_cases k5 : k = 5
    · rw [if_pos k5]; exact KP_answer h _
    rw [if_neg k5]; exact KP_answer h _
  | false =>
    rw [if_neg (show ¬ false = true by decide)]
    have d := h.id
    obtain ⟨d1, d2, d3, d4, d5⟩ := h.id
    by_cases k1 : k = 1
    · rw [if_pos k1]
      unfold tClr
      refine ⟨(((SS_lo (by decide) (by decide)).tr (SS_lo (by decide) (by decide))).tr (SS_lo (by decide) (by decide))).tr (SS_lo (by decide) (by decide)), ?_⟩
      refine ⟨?_, ?_, ?_, ?_, ?_⟩ <;> grind [upd]
    rw [if_neg k1]
    by_cases k6 : k = 6
    · rw [if_pos k6]
      unfold tOver
      by_cases z : T 9 = 0
      · rw [if_pos z]
        exact ⟨SS_lo (by decide) (by decide), ID_lo d (by decide) (by decide) (by decide) (by decide) (by decide)⟩
      · rw [if_neg z]
        refine ⟨SS_lo (by decide) (by decide), ?_⟩
        refine ⟨?_, ?_, ?_, ?_, ?_⟩ <;> grind [upd]
    rw [if_neg k6]
    by_cases k7 : k = 7
    · rw [if_pos k7]
      unfold tRst
      obtain ⟨x, hx, e⟩ := rng (b := 16) (x := T 0) (by decide) (by have := h.1; grind) h.1.2
      rw [e, ix_nI (by omega)]
      have s0 : SS T (tLow T x) := ⟨tLow_ne x 0 (Or.inl (by decide)), fun n w hn hw => tLow_ne x _ (Or.inr ⟨n, w, rfl, by omega, by omega⟩)⟩
      refine ⟨(s0.tr (SS_lo (by decide) (by decide))).tr (SS_lo (by decide) (by decide)), ?_⟩
      obtain ⟨g1, g2, g3, g4, g5⟩ := tLow_ID d x hx
      refine ⟨?_, ?_, ?_, ?_, ?_⟩ <;> grind [upd]
    rw [if_neg k7]
    have hk : k = 2 ∨ k = 3 := by
      unfold fmR at hf
      simp at hf
      omega
    unfold tMask
    by_cases z : 0 ≤ v ∧ v ≤ 255
    · rw [if_pos z]
      exact ⟨SS_lo (by omega) (by omega), ID_lo d (by omega) (by omega) (by omega) (by omega) (by omega)⟩
    · rw [if_neg z]; exact KP_fault h _
theorem KP_done {T : TT} (h : ID T) {j : Nat} (hj : j < 16) : KP T (tDone T j) := by
  unfold tDone
  refine ⟨SS.upd (by omega) (fun n w _ _ => by omega), ?_⟩
  obtain ⟨d1, d2, d3, d4, d5⟩ := h
  refine ⟨?_, ?_, ?_, ?_, ?_⟩
  · grind [upd]
  · grind [upd]
  · grind [upd]
  · grind [upd]
  · intro n hn
    have := d5 n hn
    simp only [upd]
    rw [if_neg (by omega), if_neg (by omega), if_neg (by omega), if_neg (by omega), if_neg (by omega)]
    exact this
theorem KP_ord {T : TT} (h : IT T) {j s : Nat} (hj : j < 16) (hs : s < 3) (q : Bool) (v : Int32) : KP T (tOrd T j s q v) := by
  unfold tOrd
  cases q with
  | true =>
    rw [if_pos (show true = true from rfl)]
    by_cases z : T (27 + 20 * j + 1) = 1
    · rw [if_pos z]; exact KP_answer h _
    · rw [if_neg z]; exact KP_answer h _
  | false =>
    rw [if_neg (show ¬ false = true by decide)]
    obtain ⟨d1, d2, d3, d4, d5⟩ := h.id
    by_cases z : T (27 + 20 * j + 1) = 1
    · rw [if_pos z]
      unfold tNum
      by_cases y : T (27 + 20 * j + 4) ≤ v ∧ v ≤ T (27 + 20 * j + 5)
      · rw [if_pos y]
        refine ⟨SS.upd (by omega) (fun n w _ _ => by omega), ?_⟩
        refine ⟨?_, ?_, ?_, ?_, ?_⟩
        · grind [upd]
        · grind [upd]
        · grind [upd]
        · grind [upd]
        · intro n hn
          have g := d5 n hn
          simp only [upd]
          rw [if_neg (show ¬ 27 + 20 * n + 1 = 27 + 20 * j + 6 + s by omega), if_neg (show ¬ 27 + 20 * n + 4 = 27 + 20 * j + 6 + s by omega)]
          intro hne
          have hnj : n ≠ j := fun e => hne (by rw [e]; exact z)
          rw [if_neg (by omega), if_neg (by omega), if_neg (by omega)]
          exact g hne
      · rw [if_neg y]; exact KP_fault h _
    · rw [if_neg z]
      unfold tAct
      by_cases sl : decide (T (27 + 20 * j + 1) = 3) = true
      · rw [if_pos sl]
        by_cases y : T 9 = 4
        · rw [if_pos y]; exact KP_fault h _
        · rw [if_neg y]
          obtain ⟨a, ha, e⟩ := rng (b := 4) (by decide) d1.1 d1.2
          have a4 : a ≠ 4 := fun w => y (by rw [e, w]; rfl)
          have ea : ix (T 9) = a := by rw [e]; exact ix_nI (by omega)
          rw [ea]
          have k0 : KP T (upd (upd T (13 + a) (nI j)) 9 (T 9 + 1)) := by
            refine ⟨(SS_lo (by omega) (by omega)).tr (SS_lo (by decide) (by decide)), ?_⟩
            refine ⟨?_, ?_, ?_, ?_, ?_⟩
            · have e1 : (upd (upd T (13 + a) (nI j)) 9 (T 9 + 1)) 9 = nI (a + 1) := by simp only [upd, if_true]; rw [e, nI_1]
              rw [e1]
              exact ⟨nI_le (a := 0) (by omega) (by omega), nI_le (b := 4) (by omega) (by omega)⟩
            · simp only [upd]; rw [if_neg (by decide), if_neg (by omega)]; exact d2
            · simp only [upd]; rw [if_neg (by decide), if_neg (by omega)]; exact d3
            · simp only [upd]; rw [if_neg (by decide), if_neg (by omega)]; exact d4
            · intro n hn
              have g := d5 n hn
              simp only [upd]
              rw [if_neg (by omega), if_neg (by omega), if_neg (by omega), if_neg (by omega), if_neg (by omega), if_neg (by omega), if_neg (by omega), if_neg (by omega), if_neg (by omega), if_neg (by omega)]
              exact g
          exact k0.tr (KP_done k0.2 hj)
      · rw [if_neg sl]
        exact KP_done h.id hj
