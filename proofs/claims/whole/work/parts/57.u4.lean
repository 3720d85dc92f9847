theorem m_goes {n : Nat} {t T : TT} {c j0 N : Nat} {W : Nat → TT} (hN : 200 ≤ N) (hI : IT T) (hT0 : T 0 = nI j0) (hj : j0 ≤ 16) (hc : c ≤ 6) (hw : WI n W c) {s v a : Nat} {fl : Bool} (hs : s < 18) (hv : v < 16) (ha : a ≤ c) : ∀ w f m x, x + w = 32 → w < f → MI m n t T c W → FR m s v a fl x → m 111 15 = nI (s + 1) → (fdL (gA T c j0 (fitB n t T W) v a) w x = none ∧ ∃ m', f_X9_goesOn_14 N f m (nI s) (nI v) = some (m', 0) ∧ m' 111 15 = nI (s + 1) ∧ GF m m' ∧ BL m m' s) ∨ (∃ x' y a' fl' m', x ≤ x' ∧ x' < 32 ∧ fdL (gA T c j0 (fitB n t T W) v a) w x = (FD T c j0 (fitB n t T W) y a' fl').or (fdL (gA T c j0 (fitB n t T W) v a) (32 - (x' + 1)) (x' + 1)) ∧ v < y ∧ y < j0 ∧ a' ≤ c ∧ f_X9_goesOn_14 N f m (nI s) (nI v) = some (m', 1) ∧ m' 111 15 = nI (s + 2) ∧ FR m' s v a fl (x' + 1) ∧ FR m' (s + 1) y a' fl' 0 ∧ GF m m' ∧ BL m m' s) := by
  intro w
  induction w with
  | zero =>
    intro f m x h1 h2 mi fr hsp
    obtain ⟨f, rfl⟩ : ∃ k, f = k + 1 := ⟨f - 1, by omega⟩
    left
    refine ⟨rfl, m, ?_, hsp, GF.rf, fun _ _ _ _ _ => rfl⟩
    show f_X9_goesOn_14b N (f_X9_goesOn_14 N f) m (nI s) (nI v) = _
    unfold f_X9_goesOn_14b
    rw [gd_of (inR_nI (by omega) (by decide)), ix_nI (by omega), fr.2.2.2, if_pos (show (32 : Int32) ≤ nI x from nI_le (a := 32) (by omega) (by omega))]
  | succ w ih =>
    intro f m x h1 h2 mi fr hsp
    obtain ⟨f, rfl⟩ : ∃ k, f = k + 1 := ⟨f - 1, by omega⟩
    have em : nI x - nI x / 16 * 16 = nI (x % 16) := by
      have g : ∀ x, x < 32 → nI x - nI x / 16 * 16 = nI (x % 16) := by decide
      exact g x (by omega)
    have hunf : fdL (gA T c j0 (fitB n t T W) v a) (w + 1) x = (gA T c j0 (fitB n t T W) v a x).or (fdL (gA T c j0 (fitB n t T W) v a) w (x + 1)) := rfl
    show (_ ∧ ∃ m', f_X9_goesOn_14b N (f_X9_goesOn_14 N f) m (nI s) (nI v) = some (m', 0) ∧ _) ∨ (∃ x' y a' fl' m', _ ∧ _ ∧ _ ∧ _ ∧ _ ∧ _ ∧ f_X9_goesOn_14b N (f_X9_goesOn_14 N f) m (nI s) (nI v) = some (m', 1) ∧ _)
    rw [hunf]
    unfold f_X9_goesOn_14b
    rw [gd_of (inR_nI (by omega) (by decide)), ix_nI (by omega), fr.2.2.2, if_neg (show ¬ (32 : Int32) ≤ nI x from nI_ge (b := 32) (by omega) (by decide)), gd_of (inR_nI (by omega) (by decide)), gd_of (inR_nI (by omega) (by decide)), em]
    -- one look
    generalize hm1 : up m 123 s (nI (x + 1)) = m1
    have g1 : GF m m1 := by rw [← hm1]; exact ⟨fun k h1 h2 => up_ne (by omega), fun j hj => by rw [up_ne (by decide)]⟩
    have b1 : BL m m1 s := by
      rw [← hm1]
      intro k j h1 h2 h3
      simp only [up]
      rw [if_neg (by omega)]
    have mi1 := mi.of g1
    have sp1 : m1 111 15 = nI (s + 1) := by rw [← hm1, up_ne (by decide), hsp]
    have fr1 : FR m1 s v a fl (x + 1) := by
      rw [← hm1]
      refine ⟨?_, ?_, ?_, by simp [up]⟩
      · rw [up_ne (by decide)]; exact fr.1
      · rw [up_ne (by decide)]; exact fr.2.1
      · rw [up_ne (by decide)]; exact fr.2.2.1
    have skip : gA T c j0 (fitB n t T W) v a x = none → (((gA T c j0 (fitB n t T W) v a x).or (fdL (gA T c j0 (fitB n t T W) v a) w (x + 1)) = none ∧ ∃ m', f_X9_goesOn_14 N f m1 (nI s) (nI v) = some (m', 0) ∧ m' 111 15 = nI (s + 1) ∧ GF m m' ∧ BL m m' s) ∨ (∃ x' y a' fl' m', x ≤ x' ∧ x' < 32 ∧ (gA T c j0 (fitB n t T W) v a x).or (fdL (gA T c j0 (fitB n t T W) v a) w (x + 1)) = (FD T c j0 (fitB n t T W) y a' fl').or (fdL (gA T c j0 (fitB n t T W) v a) (32 - (x' + 1)) (x' + 1)) ∧ v < y ∧ y < j0 ∧ a' ≤ c ∧ f_X9_goesOn_14 N f m1 (nI s) (nI v) = some (m', 1) ∧ m' 111 15 = nI (s + 2) ∧ FR m' s v a fl (x' + 1) ∧ FR m' (s + 1) y a' fl' 0 ∧ GF m m' ∧ BL m m' s)) := by
      intro hg
      rw [hg, Option.none_or]
      rcases ih f m1 (x + 1) (by omega) (by omega) mi1 fr1 sp1 with ⟨q1, m', q2, q3, q4, q5⟩ | ⟨x', y, a', fl', m', q0, q1, q2, q3, q4, q5, q6, q7, q8, q9, q10, q11⟩
      · left
        exact ⟨q1, m', q2, q3, g1.tr q4, fun k j z1 z2 z3 => (q5 k j z1 z2 z3).trans (b1 k j z1 z2 z3)⟩
      · right
        exact ⟨x', y, a', fl', m', by omega, q1, q2, q3, q4, q5, q6, q7, q8, q9, g1.tr q10, fun k j z1 z2 z3 => (q11 k j z1 z2 z3).trans (b1 k j z1 z2 z3)⟩
    have push : ∀ (y a' : Nat) (fl' : Bool) (z : Int32), z = b2i fl' → gA T c j0 (fitB n t T W) v a x = FD T c j0 (fitB n t T W) y a' fl' → v < y → y < j0 → a' ≤ c → (((gA T c j0 (fitB n t T W) v a x).or (fdL (gA T c j0 (fitB n t T W) v a) w (x + 1)) = none ∧ ∃ m', bm (f_X9_pass m1 (nI y) (nI a') z) (fun m2 _ => some (m2, (1 : Int32))) = some (m', 0) ∧ m' 111 15 = nI (s + 1) ∧ GF m m' ∧ BL m m' s) ∨ (∃ x' y' a'' fl'' m', x ≤ x' ∧ x' < 32 ∧ (gA T c j0 (fitB n t T W) v a x).or (fdL (gA T c j0 (fitB n t T W) v a) w (x + 1)) = (FD T c j0 (fitB n t T W) y' a'' fl'').or (fdL (gA T c j0 (fitB n t T W) v a) (32 - (x' + 1)) (x' + 1)) ∧ v < y' ∧ y' < j0 ∧ a'' ≤ c ∧ bm (f_X9_pass m1 (nI y) (nI a') z) (fun m2 _ => some (m2, (1 : Int32))) = some (m', 1) ∧ m' 111 15 = nI (s + 2) ∧ FR m' s v a fl (x' + 1) ∧ FR m' (s + 1) y' a'' fl'' 0 ∧ GF m m' ∧ BL m m' s)) := by
      intro y a' fl' z hz hg hvy hyj hac
      right
      rw [hz]
      obtain ⟨m2, p1, p2, p3, p4, p5⟩ := m_pass (v := y) (a := a') (fl := fl') (show s + 1 < 20 by omega) sp1
      rw [p1, bm_some]
      refine ⟨x, y, a', fl', m2, Nat.le_refl x, by omega, ?_, hvy, hyj, hac, rfl, p2, ⟨?_, ?_, ?_, ?_⟩, p3, g1.tr p4, fun k j z1 z2 z3 => (p5 k j z1 z2 (by omega)).trans (b1 k j z1 z2 z3)⟩
      · rw [hg, show 32 - (x + 1) = w by omega]
      · rw [p5 120 s (by decide) (by decide) (by omega)]; exact fr1.1
      · rw [p5 121 s (by decide) (by decide) (by omega)]; exact fr1.2.1
      · rw [p5 122 s (by decide) (by decide) (by omega)]; exact fr1.2.2.1
      · rw [p5 123 s (by decide) (by decide) (by omega)]; exact fr1.2.2.2
    have hy16 : x % 16 < 16 := Nat.mod_lt _ (by decide)
    have e0 : ∀ M : Mem, M 112 = T → f_X9_ofNode M (nI (x % 16)) 0 = some (M, T (27 + 20 * (x % 16))) := fun M hM => by
      have := m_ofNode M hy16 (w := 0) (by decide)
      rw [hM] at this
      exact this
    have e3 : ∀ M : Mem, M 112 = T → f_X9_ofNode M (nI (x % 16)) 3 = some (M, T (27 + 20 * (x % 16) + 3)) := fun M hM => by
      have := m_ofNode M hy16 (w := 3) (by decide)
      rw [hM] at this
      exact this
    have hnode : ∀ y, y < 16 → ((0 ≤ nI y ∧ nI y < T 0) ↔ y < j0) := fun y hy => by
      rw [hT0]
      exact ⟨fun q => (nI_ltI (by omega) (by omega)).mp q.2, fun q => ⟨nI_le (a := 0) (by omega) (by omega), nI_lt q (by omega)⟩⟩
    unfold f_X9_goesOn_51 f_X9_goesOn_162 f_X9_goesOn_133
    simp only [gd_of (inR_nI (show s < 20 by omega) (show 20 < 2 ^ 31 by decide)), ix_nI (show s < 2 ^ 31 by omega), fr.2.2.2, lm_def, nI_1, hm1, m_isNode mi1.2.1 hI, bm_some, if01, e0 m1 mi1.2.1, e3 m1 mi1.2.1, mi1.2.2.1, fr1.2.1]
    by_cases hy0 : x % 16 = 0
    · have hg : gA T c j0 (fitB n t T W) v a x = none := by
        unfold gA
        by_cases hx : x < 16
        · rw [if_pos hx, if_neg (by omega)]
        · rw [if_neg hx, if_neg (by omega)]
      rw [if_pos (show nI (x % 16) ≤ 0 by rw [hy0]; decide), if_pos (show nI (x % 16) ≤ 0 by rw [hy0]; decide)]
      have := skip hg
      split <;> exact this
    · have hne : ¬ nI (x % 16) ≤ 0 := nI_ge (b := x % 16) (a := 0) (by omega) (by omega)
      simp only [if_neg hne]
      by_cases hyj : x % 16 < j0
      · simp only [if_pos ((hnode _ hy16).mpr hyj)]
        by_cases hp : T (27 + 20 * (x % 16)) = nI v
        · have hvy : v < x % 16 := par_lt hI (by omega) hy16 (by omega) (by rw [hT0]; exact nI_lt hyj (by omega)) hp
          simp only [if_pos hp, fr1.2.1, mi1.2.2.1]
          by_cases hx : x < 16
          · have ex : x % 16 = x := Nat.mod_eq_of_lt hx
            rw [if_neg (show ¬ (16 : Int32) ≤ nI x from nI_ge (b := 16) hx (by decide))]
            simp only [if_neg (show ¬ (1 : Int32) = 0 by decide), fr1.2.1, mi1.2.2.1]
            by_cases hac : a < c
            · simp only [if_neg (nI_ge hac (show c < 2 ^ 31 by omega)), m_fit hN mi1.1 mi1.2.1 hI hw hc hac mi1.2.2.2 hy16 (show 1 ≤ x % 16 by omega) (show nI (x % 16) < T 0 by rw [hT0]; exact nI_lt hyj (by omega)), bm_some, if01]
              by_cases hf : fitP n t T W (x % 16) a
              · simp only [if_pos hf, fr1.2.1, nI_1]
                refine push (x % 16) (a + 1) true 1 rfl ?_ hvy hyj (by omega)
                unfold gA
                rw [if_pos hx, if_pos ⟨⟨by omega, by omega⟩, by rw [← ex]; exact hp, hac, by rw [← ex]; exact decide_eq_true hf⟩, ex]
              · rw [if_neg hf]
                refine skip ?_
                unfold gA
                rw [if_pos hx, if_neg (fun q => hf (by rw [ex]; exact of_decide_eq_true q.2.2.2))]
            · simp only [if_pos (nI_le (show c ≤ a by omega) (show a < 2 ^ 31 by omega))]
              refine skip ?_
              unfold gA
              rw [if_pos hx, if_neg (fun q => hac q.2.2.1)]
          · have ex : x % 16 = x - 16 := by omega
            rw [if_pos (show (16 : Int32) ≤ nI x from nI_le (a := 16) (by omega) (by omega))]
            simp only [if_true]
            by_cases hlo : T (27 + 20 * (x % 16) + 3) = 1
            · simp only [if_pos hlo, fr1.2.1]
              refine push (x % 16) a false 0 rfl ?_ hvy hyj ha
              unfold gA
              rw [if_neg hx, if_pos ⟨⟨by omega, by omega⟩, by rw [← ex]; exact hp, by rw [← ex]; exact hlo⟩, ex]
            · simp only [if_neg hlo]
              refine skip ?_
              unfold gA
              rw [if_neg hx, if_neg (fun q => hlo (by rw [ex]; exact q.2.2))]
        · simp only [if_neg hp]
          have hg : gA T c j0 (fitB n t T W) v a x = none := by
            unfold gA
            by_cases hx : x < 16
            · rw [if_pos hx, if_neg (fun q => hp (by rw [Nat.mod_eq_of_lt hx]; exact q.2.1))]
            · rw [if_neg hx, if_neg (fun q => hp (by rw [show x % 16 = x - 16 by omega]; exact q.2.1))]
          have := skip hg
          split <;> exact this
      · simp only [if_neg (fun q => hyj ((hnode _ hy16).mp q))]
        have hg : gA T c j0 (fitB n t T W) v a x = none := by
          unfold gA
          by_cases hx : x < 16
          · rw [if_pos hx, if_neg (by omega)]
          · rw [if_neg hx, if_neg (by omega)]
        have := skip hg
        split <;> exact this
