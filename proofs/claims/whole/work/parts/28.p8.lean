theorem IT.b10 {m : Mem} {k : Nat} {T : TT} (h : IT T) (r : RSt m k T) : isB (m k 16) = true := by
  have e : m k 16 = T 10 := r.1.2.2.2.2.2.2.2.2.2.2.1
  rw [e]
  rcases h.2.2.2.2.1 with h | h <;> rw [h] <;> rfl
theorem c_keep12 (N : Nat) (hN : 60 ≤ N) (m : Mem) (T : TT) (p : Nat) (P : Nat → TT) (n : Nat) (t q : TT) (h : RC m T p P n t q) (hI : IT T) (hp : p < 5) : ∃ m', f_X0_keep_12 N 43 m = some (m', ()) ∧ RC m' T (p + 1) (fun i => if i = p then T else P i) n t q ∧ CF m m' ∧ ∀ k, k < 54 → m' k = m k := by
  obtain ⟨⟨h1, h2⟩, h3, h4, h5, h6, ⟨h7, h8⟩, h9⟩ := h
  have hk := h3.1 p hp
  have hr := st_rng hk.1 hk.2
  obtain ⟨m1, e1, c1, c2⟩ := c_copySt N hN m (kK m p) 43 hk.1 rfl (by omega) (hI.b10 h4)
  unfold f_X0_keep_12
  have ei : ix (nI p) = p := ix_nI (by omega)
  rw [h1, gd_of (inR_nI hp (by decide)), ei, gd_of (show isSt (ix (m 55 p)) = true from hk.1), show f_X3_copyFrom N (ix (m 55 p)) 43 m = _ from e1, bm_some, lm_def, c2 54 (by omega), h1, nI_1]
  have f : ∀ k, k ≠ 54 → (k < kK m p ∨ kK m p + 11 ≤ k) → up m1 54 1 (nI (p + 1)) k = m k := fun k a b => by rw [up_ne a, c2 k b]
  have e : ∀ i, kK (up m1 54 1 (nI (p + 1))) i = kK m i := fun i => by unfold kK; rw [f 55 (by decide) (by omega)]
  have hn : ∀ n, n < 16 → up m1 54 1 (nI (p + 1)) (6 + 2 * n) = m (6 + 2 * n) ∧ up m1 54 1 (nI (p + 1)) (7 + 2 * n) = m (7 + 2 * n) := fun n hn => ⟨f _ (by omega) (by omega), f _ (by omega) (by omega)⟩
  refine ⟨_, rfl, ⟨⟨by simp [up], by omega⟩, ?_, h4.fr (fun c hc => f _ (by omega) (by omega)), h5.fr hn, fun i hi => ?_, ⟨by rw [f 1 (by omega) (by omega), h7], fun j hj => by rw [f 2 (by omega) (by omega), h8 j hj]⟩, by rw [f 0 (by omega) (by omega)]; exact h9⟩, fun k hk2 => f k (by omega) (by omega), fun k hk2 => f k (by omega) (by omega)⟩
  · unfold HP
    simp only [e]
    exact h3
  · rw [e]
    by_cases hip : i = p
    · subst hip
      simp only [if_true]
      exact ⟨(c1 T h4).fr (fun c hc => by rw [up_ne (by omega)]), h5.fr hn⟩
    · simp only [if_neg hip]
      have hki := h3.1 i (by omega)
      have hri := st_rng hki.1 hki.2
      have hd := st_far hki.1 hk.1 (h3.2 i p (by omega) hp hip)
      exact ⟨(h6 i (by omega)).1.fr (fun c hc => f _ (by omega) (by omega)), (h6 i (by omega)).2.fr hn⟩
theorem c_keep (N : Nat) (hN : 60 ≤ N) (m : Mem) (T : TT) (p : Nat) (P : Nat → TT) (n : Nat) (t q : TT) (h : RC m T p P n t q) (hI : IT T) : ∃ m', f_X0_keep N 43 m = some (m', ()) ∧ RC m' T (pN p) (pP p P T) n t q ∧ CF m m' ∧ ∀ k, k < 54 → m' k = m k := by
  unfold f_X0_keep
  have h0 := h
  obtain ⟨⟨h1, h2⟩, h3, h4, h5, h6, ⟨h7, h8⟩, h9⟩ := h
  by_cases h5p : p = 5
  · subst h5p
    rw [h1, if_neg (by decide)]
    obtain ⟨M, e1, k1, k2, k3, k4⟩ := c_drop N hN m h3
    rw [e1, bm_some]
    have hM : RC M T 4 (fun i => P (i + 1)) n t q := by
      have hn : ∀ n, n < 16 → M (6 + 2 * n) = m (6 + 2 * n) ∧ M (7 + 2 * n) = m (7 + 2 * n) := fun n hn => ⟨k4 _ (by omega) (by omega), k4 _ (by omega) (by omega)⟩
      refine ⟨⟨k3, by decide⟩, ⟨fun i hi => ?_, fun i j hi hj hij => ?_⟩, h4.fr (fun c hc => k4 _ (by omega) (by omega)), h5.fr hn, fun i hi => ?_, ⟨by rw [k4 1 (by decide) (by decide), h7], fun j hj => by rw [k4 2 (by decide) (by decide), h8 j hj]⟩, by rw [k4 0 (by decide) (by decide)]; exact h9⟩
      · by_cases e : i = 4
        · subst e; rw [k2]; exact h3.1 0 (by decide)
        · rw [k1 i (by omega)]; exact h3.1 (i + 1) (by omega)
      · by_cases e : i = 4
        · subst e; rw [k2, k1 j (by omega)]; exact h3.2 0 (j + 1) (by decide) (by omega) (by omega)
        · by_cases e' : j = 4
          · subst e'; rw [k2, k1 i (by omega)]; exact h3.2 (i + 1) 0 (by omega) (by decide) (by omega)
          · rw [k1 i (by omega), k1 j (by omega)]; exact h3.2 (i + 1) (j + 1) (by omega) (by omega) (by omega)
      · rw [k1 i hi]
        have hki := h3.1 (i + 1) (by omega)
        have hri := st_rng hki.1 hki.2
        exact ⟨(h6 (i + 1) (by omega)).1.fr (fun c hc => k4 _ (by omega) (by omega)), (h6 (i + 1) (by omega)).2.fr hn⟩
    obtain ⟨m', a1, a2, a3, a4⟩ := c_keep12 N hN M T 4 _ n t q hM hI (by decide)
    refine ⟨m', a1, ?_, fun k hk => by rw [a3 k hk, k4 k (by omega) (by omega)], fun k hk => by rw [a4 k hk, k4 k (by omega) (by omega)]⟩
    have e : pP 5 P T = fun i => if i = 4 then T else P (i + 1) := by funext i; simp [pP]
    rw [e]
    exact a2
  · have hp : p < 5 := by omega
    rw [h1, if_pos (show nI p < (5 : Int32) from nI_lt (b := 5) hp (by decide))]
    obtain ⟨m', a1, a2, a3, a4⟩ := c_keep12 N hN m T p P n t q h0 hI hp
    refine ⟨m', a1, ?_, a3, a4⟩
    have e : pP p P T = fun i => if i = p then T else P i := by funext i; simp [pP, h5p]
    rw [e, show pN p = p + 1 by simp [pN, h5p]]
    exact a2
theorem m_push (N : Nat) (hN : 1400 ≤ N) (m : Mem) (T0 T : TT) (p : Nat) (P : Nat → TT) (n : Nat) (t q : TT) (h : RM m T p P n t q) (hp : p ≤ 5) (hh : ∀ j, j < 347 → m 113 j = T0 j) : ∃ m', f_X9_push N m = some (m', ()) ∧ RM m' T (pN p) (pP p P T0) n t q ∧ MF m m' := by
  obtain ⟨h1, h2, h3, h4, h5, h6⟩ := h
  unfold f_X9_push f_X9_push_49
  by_cases h5p : p = 5
  · subst h5p
    rw [if_pos (by rw [h1]; rfl), m_push10 N (by omega) m h1]
    unfold f_X9_push_49
    rw [m_push51 N (by omega) _ 4 (by decide) (by simp [up])]
    refine ⟨_, rfl, ⟨?_, ?_, fun i j hi hj => ?_, ?_, ?_, ?_⟩, fun k hk => ?_⟩
    · simp [up, pN]
    · rw [up_ne (by decide), setC_ne (by decide)]; first | exact h2 | (rw [up_ne (by decide), setC_ne (by decide)]; exact h2)
    · simp only [up, setC, pP, pN] at hi ⊢
      by_cases e : i = 4
      · subst e
        simp
        rw [if_pos (by omega), hh j hj]
      · simp at hi
        simp [e]
        rw [if_neg (by omega), if_pos (by omega), show 347 * i + j + 347 = 347 * (i + 1) + j by omega, h3 (i + 1) j (by omega) hj]
    · simp [up, setC]; exact h4
    · simp [up, setC]; exact h5
    · simp [up, setC]; exact h6
    · rw [up_ne (by omega), setC_ne (by omega), up_ne (by omega), setC_ne (by omega)]
  · have hp : p < 5 := by omega
    rw [if_neg (by rw [h1]; intro q; exact h5p ((nI_eq (by omega) (by decide)).mp q)), m_push51 N (by omega) _ p hp h1]
    refine ⟨_, rfl, ⟨?_, ?_, fun i j hi hj => ?_, ?_, ?_, ?_⟩, fun k hk => ?_⟩
    · simp [up, pN, h5p]
    · rw [up_ne (by decide), setC_ne (by decide)]; first | exact h2 | (rw [up_ne (by decide), setC_ne (by decide)]; exact h2)
    · simp only [up, setC, pP, pN, if_neg h5p] at hi ⊢
      by_cases e : i = p
      · subst e
        simp
        rw [if_pos (by omega), hh j hj]
      · have : i < p := by omega
        simp [e]
        rw [if_neg (by omega), h3 i j this hj]
    · simp [up, setC]; exact h4
    · simp [up, setC]; exact h5
    · simp [up, setC]; exact h6
    · rw [up_ne (by omega), setC_ne (by omega)]
