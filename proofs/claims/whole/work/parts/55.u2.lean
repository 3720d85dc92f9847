theorem c_find {m : Mem} {n : Nat} {t T : TT} {c j0 N : Nat} {W : Nat → TT} (hN : 200 ≤ N) (hI : IT T) (hT0 : T 0 = nI j0) (hj1 : 1 ≤ j0) (hj : j0 ≤ 16) (hc : c ≤ 6) (hc1 : 1 ≤ c) (hw : WI n W c) (ht : TC m n t) (hn : RNd m T) (h39 : m 39 3 = nI c) (hW : ∀ s a, s < 3 → a < c → m (40 + s) a = W s a) : ∃ m', f_X5_find N m (nI j0) = some (m', rI (FD T c j0 (fitB n t T W) 0 0 false)) ∧ (∀ k, k ≠ 5 → k ≠ 3 → m' k = m k) ∧ (∀ u g, FD T c j0 (fitB n t T W) 0 0 true = some (u, g) → m' 3 3 = sfx W c g) := by
  unfold f_X5_find
  rw [if_neg (show ¬ (16 : Int32) < nI j0 from fun q => absurd ((nI_ltI (a := 16) (by omega) (by omega)).mp q) (by omega)), lm_def, lm_def]
  generalize hm2 : up (up m 3 2 (nI j0)) 3 3 1 = m2
  have f2 : ∀ k, k ≠ 3 → m2 k = m k := fun k hk => by rw [← hm2, up_ne hk, up_ne hk]
  have e32 : m2 3 2 = nI j0 := by rw [← hm2]; simp [up]
  have hl := loopUp (fun f m x => f_X5_find_18 N f m x) 16 (fun m _ => m) (fun m => f_findRec N 30 m 0 0 0) (fun x => setC m2 5 (fun i => if i < x then 0 else m2 5 i)) ?_ ?_ 16 0 N rfl (by omega)
  · have e : setC m2 5 (fun i => if i < 0 then 0 else m2 5 i) = m2 := by simp [setC_self]
    simp only [e] at hl
    rw [show f_X5_find_18 N N m2 0 = _ from hl]
    generalize hm3 : setC m2 5 (fun i => if i < 16 then 0 else m2 5 i) = m3
    have f3 : ∀ k, k ≠ 5 → m3 k = m2 k := fun k hk => by rw [← hm3, setC_ne hk]
    have ci : CFi m3 n t T c j0 W := by
      refine ⟨?_, hn.fr (fun n hn => ⟨by rw [f3 _ (by omega), f2 _ (by omega)], by rw [f3 _ (by omega), f2 _ (by omega)]⟩), by rw [f3 39 (by decide), f2 39 (by decide), h39], fun s a hs ha => by rw [f3 _ (by omega), f2 _ (by omega)]; exact hW s a hs ha, by rw [f3 3 (by decide), e32]⟩
      unfold TC
      rw [f3 1 (by decide), f2 1 (by decide), f3 2 (by decide), f2 2 (by decide)]
      exact ht
    have di : DI m3 T c j0 (fitB n t T W) := by
      intro v a hv ha hb
      exfalso
      apply hb
      rw [← hm3, setC_at, if_pos hv]
      rcases (show a = 0 ∨ a = 1 ∨ a = 2 ∨ a = 3 ∨ a = 4 ∨ a = 5 ∨ a = 6 by omega) with e | e | e | e | e | e | e <;> subst e <;> decide
    obtain ⟨m4, r1, r2, r3, r4, r5⟩ := c_from hN hI hT0 hj hc hw 16 30 m3 0 0 0 (by omega) (by omega) (by omega) (by omega) (by omega) ci di
    refine ⟨m4, r1, fun k h1 h2 => by rw [r2.1 k h1 h2, f3 k h1, f2 k h2], fun u g q => r5 (by omega) u g q⟩
  · intro f i hi
    show f_X5_find_18b N (f_X5_find_18 N f) _ _ = _
    unfold f_X5_find_18b
    rw [if_neg (show ¬ (16 : Int32) ≤ nI i from nI_ge (b := 16) hi (by decide)), gd_of (inR_nI hi (by decide)), ix_nI (by omega), lm_def, nI_1, up_setC, setC_at, setC_setC]
    congr 2
    funext j
    simp only [upd]
    grind
  · intro f
    show f_X5_find_18b N (f_X5_find_18 N f) _ _ = _
    unfold f_X5_find_18b
    rw [if_pos (by decide), bm_id]
/-- the model's fitting -/
theorem m_same {m : Mem} {n : Nat} {t T : TT} {N : Nat} (hN : 200 ≤ N) (h : TM m n t) (hT : m 112 = T) {x a st l : Nat} (hx : x < 16) (ha : a < 8) (w0 : m 117 a = nI st) (w1 : m 118 a = nI l) (l2 : l ≤ 8) (l3 : st + l ≤ n) {L : Nat} (hL : L ≤ 8) : f_X9_isSame N m (nI x) (nI L) (nI a) = some (m, if L = l ∧ ∀ j, j < l → sml (ch n t (st + j)) = T (27 + 20 * x + 12 + j) then 1 else 0) := by
  have hn := h.2.2
  unfold f_X9_isSame f_X9_isSame_15
  rw [gd_of (inR_nI ha (by decide)), ix_nI (by omega), w1]
  by_cases hl : L = l
  · subst hl
    rw [if_pos rfl]
    have g : ∀ d y f, y + d = L → d + 1 < f → f_X9_isSame_20 N f m (nI x) (nI L) (nI a) 1 (nI y) = some (m, if ∀ j, j < L → y ≤ j → sml (ch n t (st + j)) = T (27 + 20 * x + 12 + j) then 1 else 0) := by
      intro d
      induction d with
      | zero =>
        intro y f h1 h2
        obtain ⟨f, rfl⟩ : ∃ k, f = k + 1 := ⟨f - 1, by omega⟩
        show f_X9_isSame_20b N (f_X9_isSame_20 N f) m (nI x) (nI L) (nI a) 1 (nI y) = _
        unfold f_X9_isSame_20b
        rw [if_pos (nI_le (by omega) (by omega)), gd_of (show isB 1 = true from rfl), if_pos (fun j h1 h2 => by omega)]
      | succ d ih =>
        intro y f h1 h2
        obtain ⟨f, rfl⟩ : ∃ k, f = k + 2 := ⟨f - 2, by omega⟩
        show f_X9_isSame_20b N (f_X9_isSame_20 N (f + 1)) m (nI x) (nI L) (nI a) 1 (nI y) = _
        unfold f_X9_isSame_20b f_X9_isSame_66
        rw [if_neg (nI_ge (by omega) (by omega)), if_neg (by decide), show (12 : Int32) = nI 12 from rfl, nI_add, m_ofNode m hx (by omega), bm_some, gd_of (inR_nI ha (by decide)), ix_nI (show a < 2 ^ 31 by omega), w0, nI_add, gd_of (inR_nI (by omega) (by decide)), ix_nI (by omega), h.2.1 (st + y) (by omega), m_small, bm_some, hT, ← Nat.add_assoc, nI_1, show t (st + y) = ch n t (st + y) from (if_pos (by omega)).symm]
        by_cases hq : T (27 + 20 * x + 12 + y) = sml (ch n t (st + y))
        · rw [if_pos hq, ih (y + 1) (f + 1) (by omega) (by omega)]
          by_cases hh : ∀ j, j < L → y + 1 ≤ j → sml (ch n t (st + j)) = T (27 + 20 * x + 12 + j)
          · rw [if_pos hh, if_pos (fun j h2 h1 => by
              rcases Nat.eq_or_lt_of_le h1 with e | e
              · rw [← e]; exact hq.symm
              · exact hh j h2 e)]
          · rw [if_neg hh, if_neg (fun q => hh (fun j h2 h1 => q j h2 (by omega)))]
        · rw [if_neg hq, if_neg (fun q => hq (q y (by omega) (by omega)).symm)]
          show f_X9_isSame_20b N (f_X9_isSame_20 N f) m (nI x) (nI L) (nI a) 0 (nI (y + 1)) = _
          unfold f_X9_isSame_20b
          rw [if_pos rfl, gd_of (show isB 0 = true from rfl)]
          split <;> rfl
    have := g L 0 N (by omega) (by omega)
    rw [show f_X9_isSame_20 N N m (nI x) (nI L) (nI a) 1 0 = _ from this]
    by_cases hh : ∀ j, j < L → sml (ch n t (st + j)) = T (27 + 20 * x + 12 + j)
    · rw [if_pos (fun j h _ => hh j h), if_pos ⟨rfl, hh⟩]
    · rw [if_neg (fun q => hh (fun j h => q j h (by omega))), if_neg (fun q => hh q.2)]
  · rw [if_neg (show ¬ nI L = nI l from fun q => hl ((nI_eq (by omega) (by omega)).mp q)), if_neg (fun q => hl q.1)]
    obtain ⟨N, rfl⟩ : ∃ k, N = k + 1 := ⟨N - 1, by omega⟩
    show f_X9_isSame_20b (N + 1) (f_X9_isSame_20 (N + 1) N) m (nI x) (nI L) (nI a) 0 0 = _
    unfold f_X9_isSame_20b
    rw [if_pos rfl, gd_of (show isB 0 = true from rfl)]
    split <;> rfl
theorem m_fit {m : Mem} {n : Nat} {t T : TT} {N : Nat} (hN : 200 ≤ N) (h : TM m n t) (hT : m 112 = T) (hI : IT T) {W : Nat → TT} {c a x : Nat} (hw : WI n W c) (hc : c ≤ 6) (ha : a < c) (hW : ∀ s a, s < 3 → a < c → m (117 + s) a = W s a) (hx : x < 16) (hx1 : 1 ≤ x) (hx2 : nI x < T 0) : f_X9_isFit N m (nI x) (nI a) = some (m, if fitP n t T W x a then 1 else 0) := by
  obtain ⟨st, l, w0, w1, l1, l2, l3⟩ := hw a ha
  have hnn := h.2.2
  obtain ⟨i1, i2, i3, i4, ⟨i5, i6, i7⟩, i8⟩ := hI.2.2.2.2.2.2.2 x hx1 hx hx2
  have eP : fitP n t T W x a ↔ (W 2 a ≤ T (27 + 20 * x + 2) ∧ (nI l = T (27 + 20 * x + 10) ∨ nI l = T (27 + 20 * x + 11)) ∧ ∀ j, j < l → sml (ch n t (st + j)) = T (27 + 20 * x + 12 + j)) := by
    unfold fitP
    rw [w0, w1, ix_nI (by omega), ix_nI (by omega)]
  generalize hR : (if fitP n t T W x a then (1 : Int32) else 0) = R
  have R1 : fitP n t T W x a → R = 1 := fun q => by rw [← hR, if_pos q]
  have R0 : ¬ fitP n t T W x a → R = 0 := fun q => by rw [← hR, if_neg q]
  obtain ⟨La, hLa, eLa⟩ := rng (b := 8) (x := T (27 + 20 * x + 10)) (by decide) (by grind) (by show _ ≤ (8 : Int32); grind)
  obtain ⟨Lb, hLb, eLb⟩ := rng (b := 8) (x := T (27 + 20 * x + 11)) (by decide) (by grind) i7
  have e117 : m 117 a = nI st := by rw [← w0]; exact hW 0 a (by decide) ha
  have e118 : m 118 a = nI l := by rw [← w1]; exact hW 1 a (by decide) ha
  have e119 : m 119 a = W 2 a := hW 2 a (by decide) ha
  unfold f_X9_isFit f_X9_isFit_47
  rw [gd_of (inR_nI (by omega) (by decide)), ix_nI (by omega), e119, show f_X9_ofNode m (nI x) 2 = some (m, m 112 (27 + 20 * x + 2)) from m_ofNode m hx (w := 2) (by decide), bm_some, hT]
  by_cases q1 : W 2 a ≤ T (27 + 20 * x + 2)
  · rw [if_neg (by grind), show f_X9_ofNode m (nI x) 10 = some (m, m 112 (27 + 20 * x + 10)) from m_ofNode m hx (w := 10) (by decide), bm_some, hT, eLa, m_same hN h hT hx (by omega) e117 e118 l2 l3 hLa, bm_some, if01]
    by_cases q2 : La = l ∧ ∀ j, j < l → sml (ch n t (st + j)) = T (27 + 20 * x + 12 + j)
    · rw [if_pos q2, R1 (eP.mpr ⟨q1, .inl (by rw [eLa, q2.1]), q2.2⟩)]
    · rw [if_neg q2, show f_X9_ofNode m (nI x) 11 = some (m, m 112 (27 + 20 * x + 11)) from m_ofNode m hx (w := 11) (by decide), bm_some, hT, eLb, m_same hN h hT hx (by omega) e117 e118 l2 l3 hLb, bm_some, if01]
      by_cases q3 : Lb = l ∧ ∀ j, j < l → sml (ch n t (st + j)) = T (27 + 20 * x + 12 + j)
      · rw [if_pos q3, R1 (eP.mpr ⟨q1, .inr (by rw [eLb, q3.1]), q3.2⟩)]
      · rw [if_neg q3, R0 (fun q => ?_)]
        have := eP.mp q
        rcases this.2.1 with z | z
        · exact q2 ⟨((nI_eq (by omega) (by omega)).mp (by rw [z, eLa])).symm, this.2.2⟩
        · exact q3 ⟨((nI_eq (by omega) (by omega)).mp (by rw [z, eLb])).symm, this.2.2⟩
  · rw [if_pos (by grind), R0 (fun q => q1 (eP.mp q).1)]
