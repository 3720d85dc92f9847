theorem m_value {m : Mem} {n : Nat} {t : TT} {N : Nat} (hN : 200 ≤ N) (h : TM m n t) {k : Nat} (hp : m 111 16 = nI k) (hk : k < n) : (∃ p v m', valR n t k = some (p, v) ∧ isFig (ch n t p) = false ∧ f_X9_isUnitValue N m = some (m', 1) ∧ m' 111 16 = nI p ∧ m' 111 21 = v ∧ m' 111 20 = 1 ∧ k ≤ p ∧ p ≤ n ∧ VF m m') ∨ ((∀ p v, valR n t k = some (p, v) → isFig (ch n t p) = true) ∧ ((∃ m', f_X9_isUnitValue N m = some (m', 0) ∧ VF m m') ∨ ∃ m' p, f_X9_isUnitValue N m = some (m', 1) ∧ m' 111 16 = nI p ∧ p ≤ n ∧ isFig (ch n t p) = true ∧ VF m m')) := by
  have hn := h.2.2
  unfold f_X9_isUnitValue valR
  rw [lm_def]
  have v1 : VF m (up m 111 20 1) := VF.u (by omega)
  have t1 := v1.tm h
  have p1 : up m 111 20 1 111 16 = nI k := by simp [up, hp]
  have e20 : up m 111 20 1 111 20 = 1 := by simp [up]
  generalize up m 111 20 1 = m1 at *
  rw [m_here t1 p1 (by omega), bm_some, m_isLetter, bm_some, if01]
  by_cases hl : isLet (ch n t k) = true
  · rw [if_pos hl, if_pos hl]
    obtain ⟨k1, k2, k3, k4⟩ := sk_all isLet n t k
    obtain ⟨m', a1, a2, a3, a4, a5⟩ := m_wordVal hN t1 p1 hk
    rw [a1, bm_some, gd_of isB01]
    by_cases q7 : spR n t 7 k (sk isLet n t k)
    · have q78 : spR n t 7 k (sk isLet n t k) ∨ spR n t 8 k (sk isLet n t k) := Or.inl q7
      rw [if_pos q78, if_pos q7]
      rw [if_pos q7] at a3
      by_cases hf : isFig (ch n t (sk isLet n t k)) = true
      · right
        refine ⟨fun p v q => ?_, .inr ⟨m', _, rfl, a2, by omega, hf, v1.tr a5⟩⟩
        simp only [Option.some.injEq, Prod.mk.injEq] at q
        rw [← q.1]; exact hf
      · left
        exact ⟨_, _, m', rfl, by simpa using hf, rfl, a2, a3, by rw [a4, e20], by omega, by omega, v1.tr a5⟩
    · rw [if_neg q7]
      rw [if_neg q7] at a3
      by_cases q8 : spR n t 8 k (sk isLet n t k)
      · have q78 : spR n t 7 k (sk isLet n t k) ∨ spR n t 8 k (sk isLet n t k) := Or.inr q8
        rw [if_pos q78, if_pos q8]
        by_cases hf : isFig (ch n t (sk isLet n t k)) = true
        · right
          refine ⟨fun p v q => ?_, .inr ⟨m', _, rfl, a2, by omega, hf, v1.tr a5⟩⟩
          simp only [Option.some.injEq, Prod.mk.injEq] at q
          rw [← q.1]; exact hf
        · left
          exact ⟨_, _, m', rfl, by simpa using hf, rfl, a2, a3, by rw [a4, e20], by omega, by omega, v1.tr a5⟩
      · right
        have q78 : ¬ (spR n t 7 k (sk isLet n t k) ∨ spR n t 8 k (sk isLet n t k)) := fun q => q.elim q7 q8
        rw [if_neg q8, if_neg q78]
        exact ⟨fun p v q => by simp at q, .inl ⟨m', rfl, v1.tr a5⟩⟩
  · rw [if_neg hl, if_neg hl]
    unfold f_X9_isUnitValue_34 f_X9_isUnitValue_58 f_X9_isUnitValue_63 numR
    rw [m_here t1 p1 (by omega), bm_some]
    generalize hsg : ch n t k = sg
    have key : ∀ (M : Mem) (k1 : Nat) (x1 : Int32), (k1 = k ∨ k1 = k + 1) → (x1 = if sg = 45 then -1 else 1) → VF m1 M → M 111 16 = nI k1 → M 111 21 = 0 → M 111 20 = 1 → (∃ p v m', numF n t sg (fgR n t 6 k1 0 0) = some (p, v) ∧ isFig (ch n t p) = false ∧ f_X9_isUnitValue_74 N N M x1 0 = some (m', 1) ∧ m' 111 16 = nI p ∧ m' 111 21 = v ∧ m' 111 20 = 1 ∧ k ≤ p ∧ p ≤ n ∧ VF m m') ∨ ((∀ p v, numF n t sg (fgR n t 6 k1 0 0) = some (p, v) → isFig (ch n t p) = true) ∧ ((∃ m', f_X9_isUnitValue_74 N N M x1 0 = some (m', 0) ∧ VF m m') ∨ ∃ m' p, f_X9_isUnitValue_74 N N M x1 0 = some (m', 1) ∧ m' 111 16 = nI p ∧ p ≤ n ∧ isFig (ch n t p) = true ∧ VF m m')) := by
      intro M k1 x1 hk1 hx1 vf hM hM21 hM20
      obtain ⟨m2, a1, a2, a3, a4, a5⟩ := m_num74 (n := n) (t := t) (N := N) x1 7 N M k1 0 0 (by omega) (by omega) (vf.tm t1) hM hM21 (by omega)
      obtain ⟨b1, b2, b3, b4, b5, b6, b7, b8⟩ := fgR_len (n := n) (t := t) 6 k1 0 0
      have c7 := fgR_len (n := n) (t := t) 7 k1 0 0
      have hcnt := c7.2.2.2.2.1
      have hp7 := c7.2.1
      have t2 := (vf.tr a5).tm t1
      rw [show f_X9_isUnitValue_74 N N M x1 0 = _ from a1]
      have out : ∃ m', f_X9_isUnitValue_122 N m2 x1 (nI (fgR n t 7 k1 0 0).2.2) = some (m', if 1 ≤ (fgR n t 7 k1 0 0).2.2 ∧ (fgR n t 7 k1 0 0).2.2 ≤ 6 then 1 else 0) ∧ m' 111 16 = nI (if cap (ch n t (fgR n t 7 k1 0 0).1) = 75 then (fgR n t 7 k1 0 0).1 + 1 else (fgR n t 7 k1 0 0).1) ∧ m' 111 21 = (if cap (ch n t (fgR n t 7 k1 0 0).1) = 75 then (fgR n t 7 k1 0 0).2.1 * 1000 else (fgR n t 7 k1 0 0).2.1) * x1 ∧ m' 111 20 = 1 ∧ VF m m' := by
        generalize fgR n t 7 k1 0 0 = X at *
        obtain ⟨kk, vv, cc⟩ := X
        simp only at a2 a3 hcnt hp7 ⊢
        unfold f_X9_isUnitValue_122 f_X9_isUnitValue_156
        rw [m_here t2 a2 (by omega), bm_some, m_small, bm_some]
        have g : ∀ c : Int32, (cap c = 75 ↔ sml c = 107) := by intro c; unfold cap sml; grind
        have hin : ∀ M : Mem, f_X9_in M (nI cc) 1 6 = some (M, if 1 ≤ cc ∧ cc ≤ 6 then 1 else 0) := by
          intro M
          rw [m_in]
          by_cases hq : 1 ≤ cc ∧ cc ≤ 6
          · rw [if_pos hq, if_pos ⟨nI_le (a := 1) hq.1 (by omega), nI_le (b := 6) hq.2 (by decide)⟩]
          · rw [if_neg hq, if_neg (fun q => hq ⟨(nI_leI (a := 1) (by omega) (by omega)).mp q.1, (nI_leI (b := 6) (by omega) (by omega)).mp q.2⟩)]
        by_cases hK : cap (ch n t kk) = 75
        · simp only [if_pos hK, if_pos ((g _).mp hK), lm_def, hin, bm_some, gd_of (isB01 (p := 1 ≤ cc ∧ cc ≤ 6))]
          refine ⟨_, rfl, ?_, ?_, ?_, ?_⟩
          · simp [up, a2, nI_1]
          · simp [up, a3]
          · simp [up, a4, hM20]
          · exact (((v1.tr vf).tr a5).tr (VF.u (by omega))).tr ((VF.u (by omega)).tr (VF.u (by omega)))
        · simp only [if_neg hK, if_neg (fun q => hK ((g _).mpr q)), lm_def, hin, bm_some, gd_of (isB01 (p := 1 ≤ cc ∧ cc ≤ 6))]
          refine ⟨_, rfl, ?_, ?_, ?_, ?_⟩
          · simp [up, a2]
          · simp [up, a3]
          · simp [up, a4, hM20]
          · exact ((v1.tr vf).tr a5).tr (VF.u (by omega))
      obtain ⟨m', o1, o2, o3, o4, o5⟩ := out
      rw [o1]
      by_cases hf6 : isFig (ch n t (fgR n t 6 k1 0 0).1) = true
      · right
        have e7 : (fgR n t 7 k1 0 0).2.2 = 0 + 6 + 1 := b8 hf6
        rw [if_neg (by omega)]
        refine ⟨fun p v q => ?_, .inl ⟨m', rfl, o5⟩⟩
        unfold numF at q
        have hnK : ¬ cap (ch n t (fgR n t 6 k1 0 0).1) = 75 := by
          intro q
          unfold isFig at hf6
          unfold cap at q
          grind
        rw [if_neg (by have := b6 hf6; omega), if_neg hnK] at q
        simp only [Option.some.injEq, Prod.mk.injEq] at q
        rw [← q.1]
        exact hf6
      · have e7 := b7 (by simpa using hf6)
        simp only [show (6 : Nat) + 1 = 7 from rfl] at e7
        rw [e7] at o1 o2 o3 hcnt ⊢
        generalize fgR n t 6 k1 0 0 = X at *
        obtain ⟨kk, vv, cc⟩ := X
        simp only at o2 o3 b1 b2 b3 b4 b5 hf6 hcnt ⊢
        by_cases hc0 : cc = 0
        · right
          rw [if_neg (by omega)]
          exact ⟨fun p v q => by unfold numF at q; rw [if_pos hc0] at q; simp at q, .inl ⟨m', rfl, o5⟩⟩
        · rw [if_pos (show 1 ≤ cc ∧ cc ≤ 6 by omega)]
          unfold numF
          simp only [if_neg hc0]
          have hval : ∀ v : Int32, v * x1 = if sg = 45 then -v else v := by
            intro v
            rw [hx1]
            by_cases q : sg = 45
            · rw [if_pos q, if_pos q]; grind
            · rw [if_neg q, if_neg q]; grind
          by_cases hK : cap (ch n t kk) = 75
          · have hlt := ch_pos (n := n) (t := t) (i := kk) (by unfold cap at hK; grind)
            simp only [if_pos hK] at o2 o3 ⊢
            by_cases hf : isFig (ch n t (kk + 1)) = true
            · right
              refine ⟨fun p v q => ?_, .inr ⟨m', _, rfl, o2, by omega, hf, o5⟩⟩
              simp only [Option.some.injEq, Prod.mk.injEq] at q
              rw [← q.1]; exact hf
            · left
              refine ⟨_, _, m', rfl, by simpa using hf, rfl, o2, ?_, o4, by omega, by omega, o5⟩
              rw [o3, hval, show vv * 1000 = 1000 * vv by grind]
          · simp only [if_neg hK] at o2 o3 ⊢
            left
            refine ⟨_, _, m', rfl, by simpa using hf6, rfl, o2, ?_, o4, by omega, ?_, o5⟩
            · rw [o3, hval]
            · rcases b3 with q | q
              · exact q
              · rcases hk1 with z | z
                · omega
                · omega
    have w : ∀ a, VF m1 (up (up m1 111 16 a) 111 21 0) := fun a => (VF.u (by omega)).tr (VF.u (by omega))
    have y1 : ∀ a, up (up m1 111 16 a) 111 21 0 111 16 = a ∧ up (up m1 111 16 a) 111 21 0 111 21 = 0 ∧ up (up m1 111 16 a) 111 21 0 111 20 = 1 := fun a => by simp [up, e20]
    simp only [m_here t1 p1 (show k < 1000 by omega), hsg, bm_some, lm_def, p1, nI_1]
    by_cases h45 : sg = 45
    · subst h45
      simp only [if_true, or_true]
      exact key _ (k + 1) (-1) (.inr rfl) (by rw [if_pos rfl]) (w _) (y1 _).1 (y1 _).2.1 (y1 _).2.2
    · by_cases h43 : sg = 43
      · subst h43
        simp only [if_neg (show ¬ (43 : Int32) = 45 by decide), if_true, true_or]
        exact key _ (k + 1) 1 (.inr rfl) (by rw [if_neg (by decide)]) (w _) (y1 _).1 (y1 _).2.1 (y1 _).2.2
      · simp only [if_neg h45, if_neg h43, h45, h43, or_self, if_false]
        rw [show nI k + 0 = nI k by grind]
        exact key _ k 1 (.inl rfl) (by rw [if_neg h45]) (w _) (y1 _).1 (y1 _).2.1 (y1 _).2.2
