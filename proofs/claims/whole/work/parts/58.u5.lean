def MM : Nat → Nat
  | 0 => 0
  | k + 1 => 33 * (MM k + 1)
theorem m_run {n : Nat} {t T : TT} {c j0 N : Nat} {W : Nat → TT} (hN : 200 ≤ N) (hI : IT T) (hT0 : T 0 = nI j0) (hj : j0 ≤ 16) (hc : c ≤ 6) (hw : WI n W c) : ∀ k v, 16 - v ≤ k → v < j0 → ∀ w x f m s a fl, x + w = 32 → (w + 1) * (MM (k - 1) + 1) ≤ f → s ≤ v → a ≤ c → MI m n t T c W → FR m s v a fl x → m 111 15 = nI (s + 1) → (∃ u g s' m', (if a = c ∧ T (27 + 20 * v + 1) ≠ 0 then some (v, fl) else fdL (gA T c j0 (fitB n t T W) v a) w x) = some (u, g) ∧ f_X9_find_12 N f m = some (m', nI u) ∧ m' 111 15 = nI (s' + 1) ∧ s' < 18 ∧ m' 122 s' = b2i g ∧ GF m m') ∨ ((if a = c ∧ T (27 + 20 * v + 1) ≠ 0 then some (v, fl) else fdL (gA T c j0 (fitB n t T W) v a) w x) = none ∧ ∃ m' f', f ≤ f' + (w + 1) * (MM (k - 1) + 1) ∧ f_X9_find_12 N f m = f_X9_find_12 N f' m' ∧ m' 111 15 = nI s ∧ GF m m' ∧ BL m m' s) := by
  intro k
  induction k with
  | zero => intro v h1 h2; omega
  | succ k ihk =>
    intro v hk hv w
    induction w using Nat.strongRecOn with
    | _ w ihw =>
      intro x f m s a fl hx hf hs ha mi fr hsp
      have hM : 1 ≤ (w + 1) * (MM (k + 1 - 1) + 1) := Nat.mul_pos (by omega) (by omega)
      rw [show k + 1 - 1 = k by omega] at hf hM ⊢
      obtain ⟨f, rfl⟩ : ∃ q, f = q + 1 := ⟨f - 1, by omega⟩
      have e1 : nI (s + 1) - 1 = nI s := by rw [show (1 : Int32) = nI 1 from rfl, pk_sub (by omega)]; rfl
      have hnp : ¬ nI (s + 1) ≤ 0 := nI_ge (b := s + 1) (a := 0) (by omega) (by omega)
      show (∃ u g s' m', _ ∧ f_X9_find_12b N (f_X9_find_12 N f) m = some (m', nI u) ∧ _) ∨ (_ ∧ ∃ m' f', _ ∧ f_X9_find_12b N (f_X9_find_12 N f) m = f_X9_find_12 N f' m' ∧ _)
      unfold f_X9_find_12b
      rw [hsp, if_neg hnp, e1, gd_of (inR_nI (by omega) (by decide)), gd_of (inR_nI (by omega) (by decide)), ix_nI (by omega), fr.2.1, fr.1, mi.2.2.1]
      have of1 : f_X9_ofNode m (nI v) 1 = some (m, T (27 + 20 * v + 1)) := by
        have := m_ofNode m (show v < 16 by omega) (w := 1) (by decide)
        rw [mi.2.1] at this
        exact this
      have go : ¬ (a = c ∧ T (27 + 20 * v + 1) ≠ 0) → (∃ u g s' m', fdL (gA T c j0 (fitB n t T W) v a) w x = some (u, g) ∧ f_X9_find_60 N (f_X9_find_12 N f) m = some (m', nI u) ∧ m' 111 15 = nI (s' + 1) ∧ s' < 18 ∧ m' 122 s' = b2i g ∧ GF m m') ∨ (fdL (gA T c j0 (fitB n t T W) v a) w x = none ∧ ∃ m' f', f + 1 ≤ f' + (w + 1) * (MM k + 1) ∧ f_X9_find_60 N (f_X9_find_12 N f) m = f_X9_find_12 N f' m' ∧ m' 111 15 = nI s ∧ GF m m' ∧ BL m m' s) := by
        intro hnot
        unfold f_X9_find_60 f_X9_goesOn f_X9_find_77
        rw [hsp, e1, gd_of (inR_nI (by omega) (by decide)), ix_nI (by omega), fr.1]
        rcases m_goes hN hI hT0 hj hc hw (show s < 18 by omega) (show v < 16 by omega) ha w N m x hx (by omega) mi fr hsp with ⟨q1, m', q2, q3, q4, q5⟩ | ⟨x', y, a', fl', m', q0, q1, q2, q3, q4, q5, q6, q7, q8, q9, q10, q11⟩
        · right
          refine ⟨q1, up m' 111 15 (nI s), f, by omega, ?_, by simp [up], q4.tr ⟨fun k h1 _ => up_ne h1, fun j hj => by simp [up, hj]⟩, fun k j z1 z2 z3 => ?_⟩
          · rw [q2, bm_some, if_pos rfl, lm_def, q3, e1]
          · rw [up_ne (by omega)]; exact q5 k j z1 z2 z3
        · rw [q6, bm_some, if_neg (by decide), q2]
          have hk1 : 16 - y ≤ k := by omega
          obtain ⟨k', rfl⟩ : ∃ z, k = z + 1 := ⟨k - 1, by omega⟩
          have hMk : MM (k' + 1) = 33 * (MM k' + 1) := rfl
          have hw1 : (w + 1) * (MM (k' + 1) + 1) = w * (MM (k' + 1) + 1) + (MM (k' + 1) + 1) := by rw [Nat.succ_mul]
          have hwr : (32 - (x' + 1) + 1) * (MM (k' + 1) + 1) ≤ w * (MM (k' + 1) + 1) := Nat.mul_le_mul_right _ (by omega)
          have hFD := FD_gA (fit := fitB n t T W) (c := c) hI hT0 hj (v := y) (a := a') (fl := fl') q4
          rcases ihk y hk1 q4 32 0 f m' (s + 1) a' fl' (by omega) (by rw [show k' + 1 - 1 = k' by omega]; omega) (by omega) q5 (mi.of q10) q9 (by rw [q7]) with ⟨u, g, s', m2, r1, r2, r3, r4, r5, r6⟩ | ⟨r1, m2, f', r2, r3, r4, r5, r6⟩
          · left
            refine ⟨u, g, s', m2, ?_, r2, r3, r4, r5, q10.tr r6⟩
            rw [hFD, r1]
            rfl
          · rw [show k' + 1 - 1 = k' by omega] at r2
            have hF : FD T c j0 (fitB n t T W) y a' fl' = none := by rw [hFD]; exact r1
            rw [hF, Option.none_or, r3]
            have fr2 : FR m2 s v a fl (x' + 1) := by
              refine ⟨?_, ?_, ?_, ?_⟩
              · rw [r6 120 s (by decide) (by decide) (by omega)]; exact q8.1
              · rw [r6 121 s (by decide) (by decide) (by omega)]; exact q8.2.1
              · rw [r6 122 s (by decide) (by decide) (by omega)]; exact q8.2.2.1
              · rw [r6 123 s (by decide) (by decide) (by omega)]; exact q8.2.2.2
            have R := ihw (32 - (x' + 1)) (by omega) (x' + 1) f' m2 s a fl (by omega) (by rw [show k' + 1 + 1 - 1 = k' + 1 by omega]; omega) hs ha ((mi.of q10).of r5) fr2 r4
            rw [if_neg hnot, show k' + 1 + 1 - 1 = k' + 1 by omega] at R
            rcases R with ⟨u, g, s', m3, t1, t2, t3, t4, t5, t6⟩ | ⟨t1, m3, f'', t2, t3, t4, t5, t6⟩
            · left
              exact ⟨u, g, s', m3, t1, t2, t3, t4, t5, (q10.tr r5).tr t6⟩
            · right
              refine ⟨t1, m3, f'', by omega, t3, t4, (q10.tr r5).tr t5, fun k j z1 z2 z3 => ?_⟩
              rw [t6 k j z1 z2 z3, r6 k j z1 z2 (by omega), q11 k j z1 z2 z3]
      by_cases hac : a = c
      · rw [if_pos (show nI a = nI c by rw [hac]), of1, bm_some]
        by_cases hkd : T (27 + 20 * v + 1) = 0
        · have hnot : ¬ (a = c ∧ T (27 + 20 * v + 1) ≠ 0) := fun q => q.2 hkd
          rw [if_pos hkd, if_neg hnot]
          exact go hnot
        · left
          rw [if_neg hkd, if_pos ⟨hac, hkd⟩]
          exact ⟨v, fl, s, m, rfl, rfl, hsp, by omega, fr.2.2.1, GF.rf⟩
      · have hnot : ¬ (a = c ∧ T (27 + 20 * v + 1) ≠ 0) := fun q => hac q.1
        rw [if_neg (show ¬ nI a = nI c from fun q => hac ((nI_eq (by omega) (by omega)).mp q)), if_neg hnot]
        exact go hnot
theorem m_find {m : Mem} {n : Nat} {t T : TT} {c j0 N : Nat} {W : Nat → TT} (hN : 200 + MM 17 ≤ N) (hI : IT T) (hT0 : T 0 = nI j0) (hj1 : 1 ≤ j0) (hj : j0 ≤ 16) (hc : c ≤ 6) (hw : WI n W c) (mi : MI m n t T c W) : ∃ m', f_X9_find N m = some (m', rI (FD T c j0 (fitB n t T W) 0 0 false)) ∧ GF m m' ∧ (∀ u g, FD T c j0 (fitB n t T W) 0 0 false = some (u, g) → ∃ s', s' < 18 ∧ m' 111 15 = nI (s' + 1) ∧ m' 122 s' = b2i g) := by
  unfold f_X9_find
  rw [lm_def]
  have g0 : GF m (up m 111 15 0) := ⟨fun k h1 _ => up_ne h1, fun j hj => by simp [up, hj]⟩
  obtain ⟨m1, p1, p2, p3, p4, p5⟩ := m_pass (m := up m 111 15 0) (s := 0) (v := 0) (a := 0) (fl := false) (by decide) (by simp [up]; rfl)
  rw [show f_X9_pass (up m 111 15 0) 0 0 0 = _ from p1, bm_some]
  have hFD := FD_gA (fit := fitB n t T W) (c := c) hI hT0 hj (v := 0) (a := 0) (fl := false) (by omega)
  have hm : MM 17 = 33 * (MM 16 + 1) := rfl
  have hm16 : MM 16 = 33 * (MM 15 + 1) := rfl
  rw [hFD]
  rcases m_run (N := N) (by omega) hI hT0 hj hc hw 16 0 (by omega) (by omega) 32 0 N m1 0 0 false (by omega) (by show 33 * (MM 15 + 1) ≤ N; omega) (by omega) (by omega) ((mi.of g0).of p4) p3 p2 with ⟨u, g, s', m2, r1, r2, r3, r4, r5, r6⟩ | ⟨r1, m2, f', r2, r3, r4, r5, r6⟩
  · rw [r1, r2]
    refine ⟨m2, rfl, (g0.tr p4).tr r6, fun u1 g1 q => ?_⟩
    simp at q
    rw [← q.2]
    exact ⟨s', r4, r3, r5⟩
  · rw [r1, r3]
    have hf' : 1 ≤ f' := by
      have : N ≤ f' + 33 * (MM 15 + 1) := r2
      omega
    obtain ⟨f', rfl⟩ : ∃ z, f' = z + 1 := ⟨f' - 1, by omega⟩
    refine ⟨m2, ?_, (g0.tr p4).tr r5, fun u1 g1 q => by simp at q⟩
    show f_X9_find_12b N (f_X9_find_12 N f') m2 = _
    unfold f_X9_find_12b
    rw [r4, if_pos (by decide)]
    rfl
