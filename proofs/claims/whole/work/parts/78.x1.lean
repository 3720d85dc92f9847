/-! sends -/
theorem RC.hf {m m' : Mem} {T T' : TT} {p : Nat} {P : Nat → TT} {n : Nat} {t q : TT} (h : RC m T p P n t q) (hr : RSt m' 43 T') (hs : SS T T') (f : HF m m') : RC m' T' p P n t q := by
  have h2 : RC (fun k => if 43 ≤ k ∧ k ≤ 53 then m k else m' k) T p P n t q := by
    refine h.u (fun k h1 h2 h3 => ?_)
    by_cases hk : 43 ≤ k ∧ k ≤ 53
    · show (if 43 ≤ k ∧ k ≤ 53 then m k else m' k) = _
      rw [if_pos hk]
    · show (if 43 ≤ k ∧ k ≤ 53 then m k else m' k) = _
      rw [if_neg hk]
      exact f k h1 h2 (by omega)
  refine h2.now hr hs (fun k hk => ?_)
  show _ = (if 43 ≤ k ∧ k ≤ 53 then m k else m' k)
  rw [if_neg (by omega)]
theorem s_sends {m : Mem} {T : TT} {p : Nat} {P : Nat → TT} {n : Nat} {t q : TT} (N : Nat) (hN : 1400 + MM 17 ≤ N) (h : Sim m T p P n t q) : Res (fun m => f_X8_sends N m) (fun m => f_X9_sends N m) m := by
  have hI := h.2.2.1
  have hn := h.2.2.2.2.2.2.2.1
  have wi0 : WI n (fun _ _ => (0 : Int32)) 0 := fun a ha => by omega
  have kp := sR_kp (t := t) hn (n + 1) T 0 0 (fun _ _ => 0) 0 (by omega) (by omega) wi0 hI
  generalize hT1 : (sR n t (n + 1) T 0 0 (fun _ _ => 0) 0).1 = T1 at kp
  generalize hr1 : (sR n t (n + 1) T 0 0 (fun _ _ => 0) 0).2 = r1
  refine h.glue (nI r1) T1 (pN p) (pP p P T) n t q ?_ (fun m1 rm => ?_) (IA_push h.2.2 (kp.it hI) (by rw [kp.1.1]; exact Int32.le_refl _))
  · obtain ⟨m1, e1, e2, e3, e4⟩ := c_keep N (by omega) m T p P n t q h.1 hI
    show ∃ m1, f_X8_sends N m = _ ∧ _
    unfold f_X8_sends f_X6_startMessage
    rw [e1, bm_some, lm_def, lm_def, bm_some]
    generalize hm2 : up (up m1 38 1 0) 38 2 0 = m2
    have f2 : ∀ k, k ≠ 38 → m2 k = m1 k := fun k hk => by rw [← hm2, up_ne hk, up_ne hk]
    have hf2 : HF m1 m2 := fun k _ _ hk => f2 k (by omega)
    have cu : CU m2 n t T 0 0 (fun _ _ => 0) := ⟨hf2.tc ⟨e2.2.2.2.2.2.1.1, e2.2.2.2.2.2.1.2, hn⟩, e2.2.2.1.fr (fun c hc => f2 _ (by omega)), hf2.nd e2.2.2.2.1, by rw [← hm2]; simp [up]; rfl, by rw [← hm2]; simp [up]; rfl, fun s j _ hj => by omega⟩
    obtain ⟨m3, c1, c2, c3⟩ := c_loop (N := N) (by omega) (n + 1) N m2 T 0 0 (fun _ _ => 0) 0 0 (by omega) (by omega) (by omega) (by omega) (by omega) hI wi0 cu
    rw [hr1] at c1
    rw [hT1] at c2
    exact ⟨m3, c1, e2.hf c2 kp.1 (hf2.tr c3), e3.tr (fun k hk => (hf2.tr c3) k (by omega) (by omega) (by omega))⟩
  · show ∃ m2, f_X9_sends N m1 = _ ∧ _
    unfold f_X9_sends
    have rm0 := rm
    obtain ⟨h1, h2, h3, h4, h5, h6⟩ := rm
    rw [m_hold N (by omega) m1, bm_some, lm_def, lm_def]
    generalize hg : setC m1 113 (fun j => if j < 347 then m1 112 j else m1 113 j) = m2
    have f : ∀ k, k ≠ 113 → m2 k = m1 k := fun k hk => by rw [← hg, setC_ne hk]
    have e113 : ∀ j, j < 347 → m2 113 j = T j := fun j hj => by rw [← hg, setC_at, if_pos hj, h2]
    generalize hm3 : up (up m2 111 16 0) 111 22 0 = m3
    have nf3 : NF m2 m3 := by rw [← hm3]; exact (NF.u (by decide)).tr (NF.u (by decide))
    have f3 : ∀ k, k ≠ 111 → m3 k = m2 k := fun k hk => by rw [← hm3, up_ne hk, up_ne hk]
    have tm3 : TM m3 n t := nf3.tm ⟨by rw [f 111 (by decide)]; exact h4, fun j hj => by rw [f 116 (by decide)]; exact h5 j hj, hn⟩
    have mu : MU m3 n t T 0 0 (fun _ _ => 0) := ⟨tm3, by rw [f3 112 (by decide), f 112 (by decide), h2], by rw [← hm3]; simp [up]; rfl, by rw [← hm3]; simp [up]; rfl, fun s j _ hj => by omega⟩
    obtain ⟨m4, c1, c2, c3⟩ := m_loop (N := N) (by omega) (n + 1) N m3 T 0 0 (fun _ _ => 0) 0 (by omega) (by omega) (by omega) (by omega) hI wi0 mu
    rw [hr1] at c1
    rw [hT1] at c2
    have nf4 := nf3.tr c3
    have rm4 : RM m4 T1 p P n t q := ⟨by rw [nf4.2 3 (by decide), f 111 (by decide)]; exact h1, c2, fun i j hi hj => by rw [nf4.1 114 (by decide), f 114 (by decide)]; exact h3 i j hi hj, by rw [nf4.2 6 (by decide), f 111 (by decide)]; exact h4, fun j hj => by rw [nf4.1 116 (by decide), f 116 (by decide)]; exact h5 j hj, fun i hi => by rw [nf4.1 115 (by decide), f 115 (by decide)]; exact h6 i hi⟩
    obtain ⟨m5, d1, d2, d3⟩ := m_push N (by omega) m4 T T1 p P n t q rm4 h.2.2.2.1 (fun j hj => by rw [nf4.1 113 (by decide)]; exact e113 j hj)
    rw [show f_X9_sends_18 N N m3 0 1 = _ from c1, d1, bm_some]
    exact ⟨m5, rfl, d2, fun k hk => by rw [d3 k hk, nf4.1 k (by omega), f k (by omega)]⟩
