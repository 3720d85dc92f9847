/-! common words -/
theorem letA {c : Int32} (h : isLet c = true) : ∃ a : Nat, 1 ≤ a ∧ a ≤ 26 ∧ sml c = nI (96 + a) ∧ cap c = nI (64 + a) := by
  have hh := let_sml h
  obtain ⟨j, hj, e⟩ := rng (b := 122) (x := sml c) (by decide) (by grind) hh.2.2.1
  have h97 : 97 ≤ j := by
    have := hh.2.1
    rw [e] at this
    exact (nI_leI (a := 97) (by omega) (by omega)).mp this
  refine ⟨j - 96, by omega, by omega, by rw [e, show 96 + (j - 96) = j by omega], ?_⟩
  have e1 : cap c = sml c - 32 := by have := hh.1; grind
  rw [e1, e, show (32 : Int32) = nI 32 from rfl, pk_sub (by omega), show j - 32 = 64 + (j - 96) by omega]
theorem cd_step {K a : Nat} {c : Int32} (hc : sml c = nI (96 + a)) (ha : 1 ≤ a) : 32 * nI K + sml c - 97 + 1 = nI (32 * K + a) := by
  rw [hc, show (32 : Int32) = nI 32 from rfl, pk_mul, nI_add, show (97 : Int32) = nI 97 from rfl, pk_sub (by omega), nI_1, show 32 * K + (96 + a) - 97 + 1 = 32 * K + a by omega]
theorem code3 {n : Nat} {t : TT} {s h l0 l1 l2 K : Nat} (hl : ∀ j, s ≤ j → j < h → isLet (ch n t j) = true) (h1 : 1 ≤ h - s) (hK : K = 32 * (32 * l0 + l1) + l2) (b0 : 1 ≤ l0 ∧ l0 ≤ 26) (b1 : 1 ≤ l1 ∧ l1 ≤ 26) (b2 : 1 ≤ l2 ∧ l2 ≤ 26) : cdF n t s (h - s) = nI K ↔ (h - s = 3 ∧ cap (ch n t s) = nI (64 + l0) ∧ cap (ch n t (s + 1)) = nI (64 + l1) ∧ cap (ch n t (s + 2)) = nI (64 + l2)) := by
  have inj : ∀ a b : Nat, a < 1000 → b < 1000 → (nI (64 + a) = nI (64 + b) ↔ a = b) := fun a b ha hb => by rw [nI_eq (by omega) (by omega)]; omega
  obtain ⟨a0, p0, q0, s0, c0⟩ := letA (hl s (by omega) (by omega))
  have d1 : cdF n t s 1 = nI a0 := by
    show (if 4 ≤ 0 then _ else 32 * (0 : Int32) + sml (ch n t (s + 0)) - 97 + 1) = _
    rw [if_neg (by decide), Nat.add_zero, show (0 : Int32) = nI 0 from rfl, cd_step s0 p0]
    congr 1
    omega
  by_cases e1 : h - s = 1
  · rw [e1, d1, nI_eq (by omega) (by omega)]
    constructor
    · intro z; omega
    · intro z; omega
  obtain ⟨a1, p1, q1, s1, c1⟩ := letA (hl (s + 1) (by omega) (by omega))
  have d2 : cdF n t s 2 = nI (32 * a0 + a1) := by
    show (if 4 ≤ 1 then _ else 32 * cdF n t s 1 + sml (ch n t (s + 1)) - 97 + 1) = _
    rw [if_neg (by decide), d1, cd_step s1 p1]
  by_cases e2 : h - s = 2
  · rw [e2, d2, nI_eq (by omega) (by omega)]
    constructor
    · intro z; omega
    · intro z; omega
  obtain ⟨a2, p2, q2, s2, c2⟩ := letA (hl (s + 2) (by omega) (by omega))
  have d3 : cdF n t s 3 = nI (32 * (32 * a0 + a1) + a2) := by
    show (if 4 ≤ 2 then _ else 32 * cdF n t s 2 + sml (ch n t (s + 2)) - 97 + 1) = _
    rw [if_neg (by decide), d2, cd_step s2 p2]
  by_cases e3 : h - s = 3
  · rw [e3, d3, nI_eq (by omega) (by omega), c0, c1, c2, inj _ _ (by omega) (by omega), inj _ _ (by omega) (by omega), inj _ _ (by omega) (by omega)]
    constructor
    · intro z; omega
    · intro z; omega
  obtain ⟨a3, p3, q3, s3, c3⟩ := letA (hl (s + 3) (by omega) (by omega))
  have d4 : cdF n t s 4 = nI (32 * (32 * (32 * a0 + a1) + a2) + a3) := by
    show (if 4 ≤ 3 then _ else 32 * cdF n t s 3 + sml (ch n t (s + 3)) - 97 + 1) = _
    rw [if_neg (by decide), d3, cd_step s3 p3]
  have dk : ∀ k, cdF n t s (4 + k) = nI (32 * (32 * (32 * a0 + a1) + a2) + a3) := by
    intro k
    induction k with
    | zero => exact d4
    | succ k ih =>
      show (if 4 ≤ 4 + k then cdF n t s (4 + k) else _) = _
      rw [if_pos (by omega), ih]
  rw [show h - s = 4 + (h - s - 4) by omega, dk, nI_eq (by omega) (by omega)]
  constructor
  · intro z; omega
  · intro z; omega
def cdK (k : Nat) : Nat := [3475, 5733, 20037, 5746, 20098, 15875, 19060].getD k 0
theorem code_sp {n : Nat} {t : TT} {s h k : Nat} (hl : ∀ j, s ≤ j → j < h → isLet (ch n t j) = true) (h1 : 1 ≤ h - s) (hk : k < 7) : cdF n t s (h - s) = nI (cdK k) ↔ spR n t k s h := by
  have g : ∀ l0 l1 l2 : Nat, cdK k = 32 * (32 * l0 + l1) + l2 → (1 ≤ l0 ∧ l0 ≤ 26) → (1 ≤ l1 ∧ l1 ≤ 26) → (1 ≤ l2 ∧ l2 ≤ 26) → strN.getD k 0 = 3 → strCh k 0 = nI (64 + l0) → strCh k 1 = nI (64 + l1) → strCh k 2 = nI (64 + l2) → (cdF n t s (h - s) = nI (cdK k) ↔ spR n t k s h) := by
    intro l0 l1 l2 hK b0 b1 b2 hL e0 e1 e2
    rw [code3 hl h1 hK b0 b1 b2, ← e0, ← e1, ← e2]
    constructor
    · rintro ⟨z1, z2, z3, z4⟩
      refine ⟨by rw [hL]; exact z1, fun j hj => ?_⟩
      rw [hL] at hj
      rcases (show j = 0 ∨ j = 1 ∨ j = 2 by omega) with q | q | q <;> subst q
      · exact z2
      · exact z3
      · exact z4
    · rintro ⟨z1, z2⟩
      rw [hL] at z1 z2
      exact ⟨z1, z2 0 (by decide), z2 1 (by decide), z2 2 (by decide)⟩
  rcases (show k = 0 ∨ k = 1 ∨ k = 2 ∨ k = 3 ∨ k = 4 ∨ k = 5 ∨ k = 6 by omega) with q | q | q | q | q | q | q <;> subst q
  · exact g 3 12 19 rfl (by decide) (by decide) (by decide) rfl (by decide) (by decide) (by decide)
  · exact g 5 19 5 rfl (by decide) (by decide) (by decide) rfl (by decide) (by decide) (by decide)
  · exact g 19 18 5 rfl (by decide) (by decide) (by decide) rfl (by decide) (by decide) (by decide)
  · exact g 5 19 18 rfl (by decide) (by decide) (by decide) rfl (by decide) (by decide) (by decide)
  · exact g 19 20 2 rfl (by decide) (by decide) (by decide) rfl (by decide) (by decide) (by decide)
  · exact g 15 16 3 rfl (by decide) (by decide) (by decide) rfl (by decide) (by decide) (by decide)
  · exact g 18 19 20 rfl (by decide) (by decide) (by decide) rfl (by decide) (by decide) (by decide)
def cwR (n : Nat) (t : TT) (s h : Nat) : Nat := if spR n t 0 s h then 1 else if spR n t 1 s h then 2 else if spR n t 2 s h then 3 else if spR n t 3 s h then 4 else if spR n t 4 s h then 5 else if spR n t 5 s h then 6 else if spR n t 6 s h then 7 else 0
theorem c_commonWord {m : Mem} {n : Nat} {t : TT} {N : Nat} (hN : 200 ≤ N) (h : TC m n t) {s e : Nat} (h4 : m 38 4 = nI s) (h5 : m 38 5 = nI e) (hse : s ≤ e) (he : e ≤ 300) : f_X6_commonWord N m = some (m, nI (cwR n t s e)) := by
  unfold f_X6_commonWord cwR
  simp only [h4, h5, c_spells hN h (show 0 < 9 by decide) hse he, c_spells hN h (show 1 < 9 by decide) hse he, c_spells hN h (show 2 < 9 by decide) hse he, c_spells hN h (show 3 < 9 by decide) hse he, c_spells hN h (show 4 < 9 by decide) hse he, c_spells hN h (show 5 < 9 by decide) hse he, c_spells hN h (show 6 < 9 by decide) hse he, bm_some, if01]
  by_cases q0 : spR n t 0 s e
  · rw [if_pos q0, if_pos q0]; rfl
  rw [if_neg q0, if_neg q0]
  by_cases q1 : spR n t 1 s e
  · rw [if_pos q1, if_pos q1]; rfl
  rw [if_neg q1, if_neg q1]
  by_cases q2 : spR n t 2 s e
  · rw [if_pos q2, if_pos q2]; rfl
  rw [if_neg q2, if_neg q2]
  by_cases q3 : spR n t 3 s e
  · rw [if_pos q3, if_pos q3]; rfl
  rw [if_neg q3, if_neg q3]
  by_cases q4 : spR n t 4 s e
  · rw [if_pos q4, if_pos q4]; rfl
  rw [if_neg q4, if_neg q4]
  by_cases q5 : spR n t 5 s e
  · rw [if_pos q5, if_pos q5]; rfl
  rw [if_neg q5, if_neg q5]
  by_cases q6 : spR n t 6 s e
  · rw [if_pos q6, if_pos q6]; rfl
  rw [if_neg q6, if_neg q6]; rfl
