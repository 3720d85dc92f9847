theorem sfx_ok {n : Nat} {t T : TT} {c j0 : Nat} {W : Nat → TT} (hI : IT T) (hT0 : T 0 = nI j0) (hj : j0 ≤ 16) (hc1 : 1 ≤ c) (hj1 : 1 ≤ j0) {u : Nat} {g : Bool} (h : FD T c j0 (fitB n t T W) 0 0 true = some (u, g)) : u < j0 ∧ (T (27 + 20 * u + 1) = 1 ∨ T (27 + 20 * u + 1) = 2 ∨ T (27 + 20 * u + 1) = 3) ∧ ∃ s, s < 3 ∧ sfx W c g = nI (s + 1) := by
  obtain ⟨p1, p2, p3, p4⟩ := FD_is hj 16 0 0 true u g (by omega) (by omega) h
  have hu1 : 1 ≤ u := by
    rcases Nat.eq_zero_or_pos u with z | z
    · subst z
      exact absurd hI.2.2.2.2.2.1.2.1 p2
    · exact z
  obtain ⟨i1, i2, i3, i4, i5, i6⟩ := hI.2.2.2.2.2.2.2 u hu1 (by omega) (by rw [hT0]; exact nI_lt p1 (by omega))
  refine ⟨p1, by grind, ?_⟩
  unfold sfx
  cases g with
  | false => exact ⟨0, by decide, rfl⟩
  | true =>
    rw [if_pos rfl]
    by_cases hw : W 2 (c - 1) < 1
    · rw [if_pos hw]; exact ⟨0, by decide, rfl⟩
    · rw [if_neg hw]
      have hf := of_decide_eq_true ((p4 rfl).1 (by omega)).1
      obtain ⟨x, hx, e⟩ := rng (b := 3) (x := W 2 (c - 1)) (by decide) (by grind) (by show _ ≤ (3 : Int32); have := hf.1; grind)
      have hx1 : 1 ≤ x := by
        rcases Nat.eq_zero_or_pos x with z | z
        · subst z; rw [e] at hw; exact absurd (show nI 0 < 1 by decide) hw
        · exact z
      exact ⟨x - 1, by omega, by rw [e, show x - 1 + 1 = x by omega]⟩
/-- one unit: its fault (0: go on), and the state behind it -/
def kC (n : Nat) (t : TT) (i hd : Nat) : Nat := cwR n t (sk isBlk n t i + 1) hd
theorem m_doUnitC {m : Mem} {T : TT} {N k : Nat} {q : Bool} {ov : Option Int32} (hN : 200 ≤ N) (hT : m 112 = T) (hI : IT T) (hc : CW k (m 111 18)) (h17 : m 111 17 = 1) (h19 : m 111 19 = b2i q) (ho : MV m ov) : (ftR k q ov.isSome ≠ 0 ∧ bm (f_X9_form m) (fun m4 r4 => f_X9_doUnit_70 N m4 0 r4) = some (m, ftR k q ov.isSome)) ∨ (ftR k q ov.isSome = 0 ∧ (bm (f_X9_form m) (fun m4 r4 => f_X9_doUnit_70 N m4 0 r4) = some (setC m 112 (tCom T k q (ov.getD 0)), 0) ∨ (bm (f_X9_form m) (fun m4 r4 => f_X9_doUnit_70 N m4 0 r4) = some (m, -222) ∧ tCom T k q (ov.getD 0) = tFault T (-222)))) := by
  rw [m_form hc h19, bm_some]
  have h20 : m 111 20 = b2i ov.isSome := by
    cases ov with
    | none => exact ho
    | some v => exact ho.1
  unfold f_X9_doUnit_70
  cases hf : fmR k q with
  | false =>
    left
    have e : ftR k q ov.isSome = -113 := by unfold ftR; rw [hf]; rfl
    rw [e, if_neg (show ¬ false = true by decide), if_pos rfl]
    exact ⟨by decide, rfl⟩
  | true =>
    rw [if_pos (show true = true from rfl)]
    have eft : ftR k q ov.isSome = (if ov.isSome = true ∧ ¬ ((k = 2 ∨ k = 3) ∧ q = false) then -108 else if ((k = 2 ∨ k = 3) ∧ q = false) ∧ ov.isSome = false then -109 else 0) := by
      unfold ftR
      rw [hf, if_neg (by decide)]
    generalize hwd : decide ((k = 2 ∨ k = 3) ∧ q = false) = w
    have hw : w = true ↔ ((k = 2 ∨ k = 3) ∧ q = false) := by rw [← hwd]; exact decide_eq_true_iff
    have hne : ¬ b2i w = -10001 := by cases w <;> decide
    rw [if_neg hne, h17, if_neg (show ¬ (1 : Int32) = 0 by decide)]
    unfold f_X9_doUnit_97 f_X9_doUnit_111
    rw [h20, h17]
    have dc := m_doCommon (N := N) (v := ov.getD 0) hN hT hI hc h19 hf
    simp only [← hw] at eft
    have hv : (k = 2 ∨ k = 3) → q = false → ov.isSome = w → m 111 21 = ov.getD 0 := by
      intro a b e
      have hw1 : w = true := hw.mpr ⟨a, b⟩
      cases ov with
      | none => rw [hw1] at e; simp at e
      | some v => exact ho.2
    cases w with
    | true =>
      rw [if_pos (show b2i true = 1 by decide)]
      cases hs : ov.isSome with
      | false =>
        left
        rw [hs] at eft
        rw [eft]
        exact ⟨by decide, rfl⟩
      | true =>
        right
        rw [hs] at eft
        rw [eft, if_pos (show b2i true = 1 by decide), if_neg (show ¬ (1 : Int32) = 0 by decide), bm_id]
        exact ⟨rfl, dc (fun a b => hv a b hs)⟩
    | false =>
      rw [if_neg (show ¬ b2i false = 1 by decide)]
      cases hs : ov.isSome with
      | false =>
        right
        rw [hs] at eft
        rw [eft, if_pos (show b2i false = 0 by decide), if_neg (show ¬ (1 : Int32) = 0 by decide), bm_id]
        exact ⟨rfl, dc (fun a b => hv a b hs)⟩
      | true =>
        left
        rw [hs] at eft
        rw [eft]
        exact ⟨by decide, rfl⟩
