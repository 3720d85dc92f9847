/-! going back -/
theorem RSt.cg {m : Mem} {k : Nat} {T T' : TT} (h : RSt m k T) (e : ∀ j, j < 347 → T' j = T j) : RSt m k T' := by
  obtain ⟨⟨a0, a1, a2, a3, a4, a5, a6, a7, a8, a9, a10, a11, a12⟩, b1, b2, b3, b4, b5, b6, b7⟩ := h
  unfold RSt
  rw [e 0 (by decide), e 1 (by decide), e 2 (by decide), e 3 (by decide), e 4 (by decide), e 5 (by decide), e 6 (by decide), e 7 (by decide), e 8 (by decide), e 9 (by decide), e 10 (by decide), e 11 (by decide), e 12 (by decide)]
  exact ⟨⟨a0, a1, a2, a3, a4, a5, a6, a7, a8, a9, a10, a11, a12⟩, fun i hi => by rw [e _ (by omega)]; exact b1 i hi, fun i hi => by rw [e _ (by omega)]; exact b2 i hi, fun i hi => by rw [e _ (by omega)]; exact b3 i hi, fun i hi => by rw [e _ (by omega)]; exact b4 i hi, fun i hi => by rw [e _ (by omega)]; exact b5 i hi, fun i hi => by rw [e _ (by omega)]; exact b6 i hi, fun i s hi hs => by rw [e _ (by omega)]; exact b7 i s hi hs⟩
theorem RNd.cg {m : Mem} {T T' : TT} (h : RNd m T) (e : ∀ j, j < 347 → T' j = T j) : RNd m T' := by
  intro n h1 h2
  rw [e 0 (by decide)] at h1
  obtain ⟨a0, a1, a2, a3, a4, a5, a6⟩ := h n h1 h2
  rw [e _ (by omega), e _ (by omega), e _ (by omega), e _ (by omega), e _ (by omega), e _ (by omega)]
  refine ⟨a0, a1, a2, a3, a4, a5, fun i hi hh => ?_⟩
  rw [e _ (by omega)]
  exact a6 i hi hh
theorem IT.cg {T T' : TT} (h : IT T) (e : ∀ j, j < 347 → T' j = T j) : IT T' := by
  refine h.of ⟨e 0 (by decide), fun n w hn hw => e _ (by omega)⟩ ?_
  obtain ⟨d1, d2, d3, d4, d5⟩ := h.id
  refine ⟨by rw [e _ (by decide)]; exact d1, by rw [e _ (by decide)]; exact d2, by rw [e _ (by decide)]; exact d3, by rw [e _ (by decide)]; exact d4, fun n hn hh => ?_⟩
  rw [e _ (by omega)] at hh
  rw [e _ (by omega), e _ (by omega), e _ (by omega), e _ (by omega)]
  exact d5 n hn hh
def tBack (T S : TT) : TT := fun j => if j < 347 then S j else T j
theorem tBack_e (T S : TT) : ∀ j, j < 347 → tBack T S j = S j := fun j hj => if_pos hj
theorem s_back {m : Mem} {T : TT} {p : Nat} {P : Nat → TT} {n : Nat} {t q : TT} (N : Nat) (hN : 1400 ≤ N) (h : Sim m T p P n t q) : Res (fun m => f_X8_back N m) (fun m => f_X9_back N m) m := by
  have h0 := h
  obtain ⟨⟨⟨h1, h2⟩, h3, h4, h5, h6, ⟨h7, h8⟩, h9⟩, hm, hI⟩ := h
  by_cases hp : p = 0
  · subst hp
    refine h0.ref 1 (by decide) ?_ (fun m1 r => ?_)
    · show f_X8_back N m = _
      unfold f_X8_back
      rw [h1, if_pos (by decide), bm_id]; rfl
    · show f_X9_back N m1 = _
      unfold f_X9_back
      rw [r.1, if_pos (by decide), bm_id]; rfl
  · obtain ⟨p, rfl⟩ : ∃ k, p = k + 1 := ⟨p - 1, by omega⟩
    have e1 : nI (p + 1) - 1 = nI p := by rw [show (1 : Int32) = nI 1 from rfl, pk_sub (by omega)]; rfl
    have hne : ¬ nI (p + 1) = 0 := fun q => absurd ((nI_eq (b := 0) (by omega) (by decide)).mp q) (by omega)
    have hk := h3.1 p (by omega)
    have hr := st_rng hk.1 hk.2
    obtain ⟨i1, i2, i3, i4, i5, i6⟩ := hI
    refine h0.glue (nI p) (tBack T (P p)) p P n t q ?_ (fun m1 r => ?_) ⟨(i3 p (by omega)).cg (tBack_e T (P p)), by omega, fun i hi => i3 i (by omega), fun i j hij hj => i4 i j hij (by omega), fun i hi => by rw [tBack_e T (P p) 0 (by decide)]; exact i4 i p hi (by omega), i6⟩
    · show ∃ m1, f_X8_back N m = _ ∧ _
      unfold f_X8_back f_X0_restore
      rw [h1, if_neg hne, if_neg (show ¬ nI (p + 1) ≤ (0 : Int32) from nI_ge (b := p + 1) (a := 0) (by omega) (by omega)), if_neg (show ¬ (5 : Int32) < nI (p + 1) from fun q => absurd ((nI_ltI (a := 5) (by omega) (by omega)).mp q) (by omega)), lm_def, e1]
      generalize hu : up m 54 1 (nI p) = mu
      have fu : ∀ k, k ≠ 54 → mu k = m k := fun k hk => by rw [← hu, up_ne hk]
      have u1 : mu 54 1 = nI p := by rw [← hu]; simp [up]
      rw [u1, gd_of (inR_nI (by omega) (by decide)), ix_nI (by omega), fu 55 (by decide), gd_of (show isSt (ix (m 55 p)) = true from hk.1)]
      have hq := h6 p (by omega)
      have hqu : RSt mu (kK m p) (P p) := hq.1.fr (fun c hc => fu _ (by omega))
      obtain ⟨m1, c1, c2, c3⟩ := c_copySt N (by omega) mu 43 (kK m p) rfl hk.1 (by omega) ((i3 p (by omega)).b10 hqu)
      rw [show f_X3_copyFrom N 43 (ix (m 55 p)) mu = some (m1, ()) from c1, bm_some, bm_some]
      have f : ∀ k, k ≠ 54 → (k < 43 ∨ 54 ≤ k) → m1 k = m k := fun k a b => by rw [c3 k (by omega), fu k a]
      have e54 : m1 54 1 = nI p := by rw [c3 54 (by omega), u1]
      have ek : ∀ i, kK m1 i = kK m i := fun i => by unfold kK; rw [f 55 (by decide) (by omega)]
      have hn : ∀ n, n < 16 → m1 (6 + 2 * n) = m (6 + 2 * n) ∧ m1 (7 + 2 * n) = m (7 + 2 * n) := fun n hn => ⟨f _ (by omega) (by omega), f _ (by omega) (by omega)⟩
      rw [e54]
      refine ⟨m1, rfl, ⟨⟨e54, by omega⟩, ?_, (c2 _ hqu).cg (tBack_e T (P p)), (hq.2.fr hn).cg (tBack_e T (P p)), fun i hi => ?_, ⟨by rw [f 1 (by decide) (by omega), h7], fun j hj => by rw [f 2 (by decide) (by omega), h8 j hj]⟩, by rw [f 0 (by decide) (by omega)]; exact h9⟩, fun k hk => f k (by omega) (by omega)⟩
      · unfold HP
        simp only [ek]
        exact h3
      · have hki := h3.1 i (by omega)
        have hri := st_rng hki.1 hki.2
        rw [ek]
        exact ⟨(h6 i (by omega)).1.fr (fun c hc => f _ (by omega) (by omega)), (h6 i (by omega)).2.fr hn⟩
    · show ∃ m2, f_X9_back N m1 = _ ∧ _
      obtain ⟨r1, r2, r3, r4, r5, r6⟩ := r
      unfold f_X9_back
      rw [r1, if_neg hne, lm_def, e1, m_back27 N (by omega) _ p (by omega) (by simp [up])]
      refine ⟨_, rfl, ⟨?_, ?_, ?_, ?_, ?_, ?_⟩, fun k hk => by rw [setC_ne (by omega), up_ne (by omega)]⟩
      · rw [setC_ne (by decide)]; simp [up]
      · rw [setC_at]
        funext j
        unfold tBack
        by_cases hj : j < 347
        · rw [if_pos hj, if_pos hj, up_ne (by decide), r3 p j (by omega) hj]
        · rw [if_neg hj, if_neg hj, up_ne (by decide), r2]
      · rw [setC_ne (by decide), up_ne (by decide)]; exact fun i j hi hj => r3 i j (by omega) hj
      · rw [setC_ne (by decide)]; simp [up, r4]
      · rw [setC_ne (by decide), up_ne (by decide)]; exact r5
      · rw [setC_ne (by decide), up_ne (by decide)]; exact r6
