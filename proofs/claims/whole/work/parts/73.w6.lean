/-! what a unit that was read is -/
theorem uR_hd {n : Nat} {t : TT} {i b z hd c : Nat} {W W' : Nat → TT} {cm q : Bool} {ov : Option Int32} (h : uR n t i b W = some (z, cm, hd, c, W', q, ov)) : hdR n t (sk isBlk n t i) b W = some (hd, cm, c, W') := by
  unfold uR at h
  cases hX : hdR n t (sk isBlk n t i) b W with
  | none => rw [hX] at h; simp at h
  | some x =>
    obtain ⟨hd2, cm2, c2, W2⟩ := x
    rw [hX] at h
    simp only at h
    cases hY : bhR n t (if ch n t hd2 = 63 then hd2 + 1 else hd2) with
    | none => rw [hY] at h; simp at h
    | some y =>
      obtain ⟨z2, ov2⟩ := y
      rw [hY] at h
      simp only [Option.some.injEq, Prod.mk.injEq] at h
      obtain ⟨-, h1, h2, h3, h4, -⟩ := h
      rw [h1, h2, h3, h4]
/-- a class memory that holds just this -/
def mU (n : Nat) (t : TT) (i b : Nat) (W : Nat → TT) : Mem := fun k j => if k = 1 then nI n else if k = 2 then t j else if k = 38 then (if j = 1 then nI i else nI b) else W (k - 40) j
theorem uR_facts {n : Nat} {t : TT} {i b z hd c : Nat} {W W' : Nat → TT} {cm q : Bool} {ov : Option Int32} (hn : n ≤ 100) (hi : i ≤ n) (hb : b ≤ 5) (h : uR n t i b W = some (z, cm, hd, c, W', q, ov)) : i ≤ z ∧ z ≤ n ∧ isEb (ch n t z) = true ∧ (cm = true → sk isBlk n t i + 1 < hd ∧ hd ≤ n) ∧ (cm = false → 1 ≤ c ∧ c ≤ 6) := by
  have hT : TC (mU n t i b W) n t := ⟨rfl, fun j _ => rfl, hn⟩
  rcases c_read (N := 200) (Nat.le_refl _) hT (i := i) (b := b) (W := W) rfl hi rfl hb (fun s j _ _ => by
    show (if 40 + s = 1 then _ else if 40 + s = 2 then _ else if 40 + s = 38 then _ else W (40 + s - 40) j) = _
    rw [if_neg (by omega), if_neg (by omega), if_neg (by omega), Nat.add_sub_cancel_left]) with ⟨z', cm', hd', c', W'', q', ov', m', a1, a2, a3, a4, a5, a6, a7, a8, a9, a10, -⟩ | ⟨a1, -⟩
  · rw [a1] at h
    simp only [Option.some.injEq, Prod.mk.injEq] at h
    obtain ⟨rfl, rfl, rfl, rfl, -⟩ := h
    exact ⟨a4, a5, a6, fun e => ⟨(a9 e).2.2.1, (a9 e).2.2.2.1⟩, fun e => (a10 e).2⟩
  · rw [a1] at h
    simp at h
theorem uR_com {n : Nat} {t : TT} {i b z hd c : Nat} {W W' : Nat → TT} {q : Bool} {ov : Option Int32} (h : uR n t i b W = some (z, true, hd, c, W', q, ov)) : W' = W ∧ c = b ∧ ∀ j, sk isBlk n t i + 1 ≤ j → j < hd → isLet (ch n t j) = true := by
  have h1 := uR_hd h
  unfold hdR at h1
  by_cases h42 : ch n t (sk isBlk n t i) = 42
  · rw [if_pos h42] at h1
    by_cases ho : wOk n t (sk isBlk n t i + 1)
    · rw [if_pos ho] at h1
      simp only [Option.some.injEq, Prod.mk.injEq, true_and] at h1
      obtain ⟨e1, e2, e3⟩ := h1
      refine ⟨e3.symm, e2.symm, fun j j1 j2 => ?_⟩
      obtain ⟨-, -, k3, -⟩ := sk_all isLet n t (sk isBlk n t i + 1)
      rw [← e1] at j2
      have := k3 j j1 j2
      rw [show ch n t j = t j from if_pos this.1]
      exact this.2
    · rw [if_neg ho] at h1
      simp at h1
  · rw [if_neg h42] at h1
    cases hX : rowR n t 3 (if ch n t (sk isBlk n t i) = 58 then sk isBlk n t i + 1 else sk isBlk n t i) (if ch n t (sk isBlk n t i) = 58 then 0 else b) W with
    | none => rw [hX] at h1; simp at h1
    | some x =>
      obtain ⟨e, c2, W2⟩ := x
      rw [hX] at h1
      simp at h1
theorem uR_wi {n : Nat} {t : TT} {i b z hd c : Nat} {W W' : Nat → TT} {q : Bool} {ov : Option Int32} (hw : WI n W b) (h : uR n t i b W = some (z, false, hd, c, W', q, ov)) : WI n W' c := by
  have h1 := uR_hd h
  unfold hdR at h1
  by_cases h42 : ch n t (sk isBlk n t i) = 42
  · rw [if_pos h42] at h1
    by_cases ho : wOk n t (sk isBlk n t i + 1)
    · rw [if_pos ho] at h1
      simp at h1
    · rw [if_neg ho] at h1
      simp at h1
  · rw [if_neg h42] at h1
    cases hX : rowR n t 3 (if ch n t (sk isBlk n t i) = 58 then sk isBlk n t i + 1 else sk isBlk n t i) (if ch n t (sk isBlk n t i) = 58 then 0 else b) W with
    | none => rw [hX] at h1; simp at h1
    | some x =>
      obtain ⟨e, c2, W2⟩ := x
      rw [hX] at h1
      simp only [Option.some.injEq, Prod.mk.injEq] at h1
      obtain ⟨-, -, e2, e3⟩ := h1
      rw [← e2, ← e3]
      refine WI_row hX ?_
      by_cases h58 : ch n t (sk isBlk n t i) = 58
      · rw [if_pos h58]; exact fun a ha => by omega
      · rw [if_neg h58]; exact hw
