/-! finds -/
theorem RC.u {m m' : Mem} {T : TT} {p : Nat} {P : Nat → TT} {n : Nat} {t q : TT} (h : RC m T p P n t q) (f : ∀ k, k ≠ 3 → k ≠ 5 → (k < 38 ∨ 42 < k) → m' k = m k) : RC m' T p P n t q := by
  obtain ⟨⟨h1, h2⟩, h3, h4, h5, h6, ⟨h7, h8⟩, h9⟩ := h
  have e : ∀ i, kK m' i = kK m i := fun i => by unfold kK; rw [f 55 (by decide) (by decide) (by decide)]
  have hn : ∀ n, n < 16 → m' (6 + 2 * n) = m (6 + 2 * n) ∧ m' (7 + 2 * n) = m (7 + 2 * n) := fun n hn => ⟨f _ (by omega) (by omega) (by omega), f _ (by omega) (by omega) (by omega)⟩
  refine ⟨⟨by rw [f 54 (by decide) (by decide) (by decide), h1], h2⟩, ?_, h4.fr (fun c hc => f _ (by omega) (by omega) (by omega)), h5.fr hn, fun i hi => ?_, ⟨by rw [f 1 (by decide) (by decide) (by decide), h7], fun j hj => by rw [f 2 (by decide) (by decide) (by decide), h8 j hj]⟩, by rw [f 0 (by decide) (by decide) (by decide)]; exact h9⟩
  · unfold HP
    simp only [e]
    exact h3
  · have hk := h3.1 i (by omega)
    have := st_rng hk.1 hk.2
    rw [e]
    exact ⟨(h6 i hi).1.fr (fun c hc => f _ (by omega) (by omega) (by omega)), (h6 i hi).2.fr hn⟩
theorem RM.u {m m' : Mem} {T : TT} {p : Nat} {P : Nat → TT} {n : Nat} {t q : TT} (h : RM m T p P n t q) (f : ∀ k, (k = 112 ∨ k = 114 ∨ k = 115 ∨ k = 116) → m' k = m k) (f3 : m' 111 3 = m 111 3) (f6 : m' 111 6 = m 111 6) : RM m' T p P n t q := by
  unfold RM
  rw [f3, f6, f 112 (by decide), f 114 (by decide), f 115 (by decide), f 116 (by decide)]
  exact h
theorem s_finds {m : Mem} {T : TT} {p : Nat} {P : Nat → TT} {n : Nat} {t q : TT} (N : Nat) (hN : 1400 + MM 17 ≤ N) (h : Sim m T p P n t q) : Res (fun m => f_X8_finds N m) (fun m => f_X9_finds N m) m := by
  have hI := h.2.2.1
  obtain ⟨j0, hj, ej⟩ := rng (b := 16) (x := T 0) (by decide) (by have := hI.1; grind) hI.1.2
  have hj1 : 1 ≤ j0 := by
    rcases Nat.eq_zero_or_pos j0 with z | z
    · subst z; have := hI.1.1; rw [ej] at this; exact absurd this (by decide)
    · exact z
  have hn := h.2.2.2.2.2.2.2.1
  have hlow := h.2.2.2.2.2.2.2.2
  let W0 : Nat → TT := fun _ _ => 0
  have wi0 : WI n W0 0 := fun a ha => by omega
  -- the answer
  have ans : ∀ e, e ≤ n → (ch n t e = -1 ↔ e = n) := by
    intro e he
    unfold ch
    by_cases hl : e < n
    · rw [if_pos hl]
      have := hlow e hl
      constructor
      · intro z; rw [z] at this; exact absurd this.1 (by decide)
      · intro z; omega
    · rw [if_neg hl]
      exact ⟨fun _ => by omega, fun _ => rfl⟩
  obtain ⟨r, hr⟩ : ∃ r, r = (match rowR n t 3 0 0 W0 with
    | none => (-10001 : Int32)
    | some (e, c, W) => if e = n then rI (FD T c j0 (fitB n t T W) 0 0 false) else -10001) := ⟨_, rfl⟩
  refine h.glue r T p P n t q ?_ (fun m1 rm => ?_) h.2.2
  · show ∃ m1, f_X8_finds N m = _ ∧ _
    unfold f_X8_finds f_X6_readRowAlone
    rw [lm_def, lm_def]
    have htc := h.1.tc h.2.2
    generalize hg : up (up m 38 1 0) 39 3 0 = m2
    have f2 : ∀ k, k ≠ 38 → k ≠ 39 → m2 k = m k := fun k h1 h2 => by rw [← hg, up_ne h2, up_ne h1]
    have t2 : TC m2 n t := by
      unfold TC
      rw [f2 1 (by decide) (by decide), f2 2 (by decide) (by decide)]
      exact htc
    have e38 : m2 38 1 = nI 0 := by rw [← hg]; simp [up]; rfl
    have e39 : m2 39 3 = nI 0 := by rw [← hg]; simp [up]; rfl
    unfold f_X6_readWords
    rcases c_readWords (n := n) (t := t) (N := N) (by omega) 4 N m2 0 0 W0 (by omega) (by omega) t2 e38 (by omega) ⟨e39, fun s j _ hj => by omega⟩ (by omega) (by omega) with ⟨e, c', W', m3, a1, a2, a3, a4, a5, a6, a7, a8, a9, a10⟩ | ⟨a1, m3, a2, a3⟩
    · rw [show rowR n t 3 0 0 W0 = _ from a1] at hr
      simp only at hr
      have t3 := a10.tc t2
      rw [show f_X6_readWords_2 N N m2 0 = _ from a2, bm_some, if_neg (show ¬ (1 : Int32) = 0 by decide), a3, c_byteAt t3 (by omega), bm_some]
      by_cases hen : e = n
      · rw [if_pos ((ans e a4).mpr hen), bm_some, if_neg (show ¬ (1 : Int32) = 0 by decide)]
        rw [if_pos hen] at hr
        have hnd : RNd m3 T := h.1.2.2.2.1.fr (fun k hk => ⟨by rw [a10.1 _ (by omega), f2 _ (by omega) (by omega)], by rw [a10.1 _ (by omega), f2 _ (by omega) (by omega)]⟩)
        have e43 : m3 43 0 = nI j0 := by rw [a10.1 43 (by decide), f2 43 (by decide) (by decide), ← ej]; exact h.1.2.2.1.1.1
        obtain ⟨m4, b1, b2, b3⟩ := c_find (N := N) (by omega) hI ej hj1 hj a7 (by omega) (WI_row a1 wi0) t3 hnd a9.1 a9.2
        rw [e43, b1, bm_some, ← hr]
        refine ⟨m4, rfl, h.1.u (fun k h1 h2 h3 => by rw [b2 k h2 h1, a10.1 k h3, f2 k (by omega) (by omega)]), fun k hk => by rw [b2 k (by omega) (by omega), a10.1 k (by omega), f2 k (by omega) (by omega)]⟩
      · rw [if_neg (fun z => hen ((ans e a4).mp z)), bm_some, if_pos rfl]
        rw [if_neg hen] at hr
        rw [hr]
        exact ⟨m3, rfl, h.1.u (fun k h1 h2 h3 => by rw [a10.1 k h3, f2 k (by omega) (by omega)]), fun k hk => by rw [a10.1 k (by omega), f2 k (by omega) (by omega)]⟩
    · rw [show rowR n t 3 0 0 W0 = _ from a1] at hr
      simp only at hr
      rw [show f_X6_readWords_2 N N m2 0 = _ from a2, bm_some, if_pos (show (0 : Int32) = 0 from rfl), bm_some, if_pos rfl, hr]
      exact ⟨m3, rfl, h.1.u (fun k h1 h2 h3 => by rw [a3.1 k h3, f2 k (by omega) (by omega)]), fun k hk => by rw [a3.1 k (by omega), f2 k (by omega) (by omega)]⟩
  · show ∃ m2, f_X9_finds N m1 = _ ∧ _
    have htm := rm.tm h.2.2
    unfold f_X9_finds
    rw [lm_def, lm_def]
    have w1 : WF m1 (up (up m1 111 16 0) 111 10 0) := (WF.u (by omega)).tr (WF.u (by omega))
    have p1 : up (up m1 111 16 0) 111 10 0 111 16 = nI 0 := by simp [up]; rfl
    have q1 : up (up m1 111 16 0) 111 10 0 111 10 = nI 0 := by simp [up]; rfl
    generalize up (up m1 111 16 0) 111 10 0 = m2 at *
    have t2 := w1.tm htm
    have fin : ∀ m', WF m1 m' → RM m' T p P n t q ∧ MF m1 m' := fun m' w => ⟨rm.u (fun k hk => w.1 k (by omega) (by omega)) (w.2 3 (by decide) (by decide)) (w.2 6 (by decide) (by decide)), fun k hk => w.1 k (by omega) (by omega)⟩
    rcases m_areWords (N := N) (W := W0) (by omega) t2 p1 (by omega) ⟨q1, fun s j _ hj => by omega⟩ (by omega) with ⟨e, c', W', m3, a1, a2, a3, a4, a5, a6⟩ | ⟨a1, m3, b, a2, a3, a4⟩
    · rw [a1] at hr
      simp only at hr
      have fx := rowR_facts a1
      have t3 := a6.tm t2
      rw [a3, bm_some, if_neg (show ¬ (1 : Int32) = 0 by decide), a4, t3.1]
      by_cases hen : e = n
      · rw [if_pos hen] at hr
        rw [if_pos (show nI e = nI n by rw [hen])]
        have mi : MI m3 n t T c' W' := ⟨t3, by rw [a6.1 112 (by decide) (by decide), w1.1 112 (by decide) (by decide)]; exact rm.2.1, a5.1, a5.2⟩
        obtain ⟨m4, b1, b2, b3⟩ := m_find (N := N) (by omega) hI ej hj1 hj fx.2.1 (WI_row a1 wi0) mi
        rw [b1, bm_some, ← hr]
        have r3 := fin m3 (w1.tr a6)
        exact ⟨m4, rfl, r3.1.u (fun k hk => b2.1 k (by omega) (by omega)) (b2.2 3 (by decide)) (b2.2 6 (by decide)), r3.2.tr (fun k hk => b2.1 k (by omega) (by omega))⟩
      · rw [if_neg hen] at hr
        rw [if_neg (show ¬ nI e = nI n from fun z => hen ((nI_eq (by omega) (by omega)).mp z)), hr]
        exact ⟨m3, rfl, fin m3 (w1.tr a6)⟩
    · have hrr : r = -10001 := by
        rw [hr]
        generalize hX : rowR n t 3 0 0 W0 = X at *
        cases X with
        | none => rfl
        | some x =>
          obtain ⟨e, c, W⟩ := x
          have hf := fig_stop (a1 e c W rfl)
          show (if e = n then _ else _) = _
          rw [if_neg (by omega)]
      rw [a2, bm_some, hrr]
      have r3 := fin m3 (w1.tr a4)
      cases b with
      | false => exact ⟨m3, rfl, r3⟩
      | true =>
        exfalso
        have := (a3 rfl).2
        omega
