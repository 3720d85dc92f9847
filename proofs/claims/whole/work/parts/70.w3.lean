/-! what a found node is -/
theorem FD_is {T : TT} {c j0 : Nat} {fit : Nat → Nat → Bool} (hj : j0 ≤ 16) : ∀ k v a fl u g, 16 - v ≤ k → v < j0 → FD T c j0 fit v a fl = some (u, g) → u < j0 ∧ T (27 + 20 * u + 1) ≠ 0 ∧ v ≤ u ∧ (g = true → (a < c → fit u (c - 1) = true ∧ v < u) ∧ (a = c → u = v)) := by
  intro k
  induction k with
  | zero => intro v a fl u g h1 h2; omega
  | succ k ih =>
    intro v a fl u g h1 h2 h
    rw [FD_eq hj (by omega)] at h
    by_cases hk : a = c ∧ T (27 + 20 * v + 1) ≠ 0
    · rw [if_pos hk] at h
      simp only [Option.some.injEq, Prod.mk.injEq] at h
      obtain ⟨rfl, rfl⟩ := h
      exact ⟨h2, hk.2, Nat.le_refl _, fun _ => ⟨fun z => by omega, fun _ => rfl⟩⟩
    · rw [if_neg hk] at h
      cases hX : fdL (fun x => if T (27 + 20 * x) = nI v ∧ a < c ∧ fit x a = true then FD T c j0 fit x (a + 1) true else none) (j0 - (v + 1)) (v + 1) with
      | some r =>
        rw [hX] at h
        simp at h
        subst h
        obtain ⟨y, h3, h4, h5⟩ := fdL_some _ _ _ hX
        by_cases hy : T (27 + 20 * y) = nI v ∧ a < c ∧ fit y a = true
        · rw [if_pos hy] at h5
          obtain ⟨p1, p2, p3, p4⟩ := ih y (a + 1) true u g (by omega) (by omega) h5
          refine ⟨p1, p2, by omega, fun hg => ⟨fun _ => ⟨?_, by omega⟩, fun z => by omega⟩⟩
          rcases Nat.lt_or_ge (a + 1) c with z | z
          · exact ((p4 hg).1 z).1
          · have hac : a + 1 = c := by omega
            have := (p4 hg).2 hac
            rw [this, show c - 1 = a by omega]
            exact hy.2.2
        · rw [if_neg hy] at h5; simp at h5
      | none =>
        rw [hX] at h
        simp at h
        obtain ⟨y, h3, h4, h5⟩ := fdL_some _ _ _ h
        by_cases hy : T (27 + 20 * y) = nI v ∧ T (27 + 20 * y + 3) = 1
        · rw [if_pos hy] at h5
          obtain ⟨p1, p2, p3, p4⟩ := ih y a false u g (by omega) (by omega) h5
          refine ⟨p1, p2, by omega, fun hg => ⟨fun z => ⟨((p4 hg).1 z).1, by omega⟩, fun z => ?_⟩⟩
          exfalso
          subst z
          rcases FD_c hj 16 y false u g (by omega) (by omega) h5 with w | w
          · rw [w.2] at hg; simp at hg
          · rw [w.2] at hg; simp at hg
        · rw [if_neg hy] at h5; simp at h5
