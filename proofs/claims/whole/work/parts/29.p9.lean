/-! one call on both sides -/
def Sim (m : Mem) (T : TT) (p : Nat) (P : Nat → TT) (n : Nat) (t q : TT) : Prop := RC m T p P n t q ∧ RM m T p P n t q ∧ IA T p P n t
def Res {α : Type} (fc fm : Mem → Option (Mem × α)) (m : Mem) : Prop := ∃ m1 m2 r T p P n t q, fc m = some (m1, r) ∧ fm m1 = some (m2, r) ∧ Sim m2 T p P n t q
theorem CF.rf {m : Mem} : CF m m := fun _ _ => rfl
theorem MF.rf {m : Mem} : MF m m := fun _ _ => rfl
theorem CF.tr {a b c : Mem} (h : CF a b) (g : CF b c) : CF a c := fun k hk => (g k hk).trans (h k hk)
theorem MF.tr {a b c : Mem} (h : MF a b) (g : MF b c) : MF a c := fun k hk => (g k hk).trans (h k hk)
theorem bm_id {α : Type} (x : Option (Mem × α)) : bm x (fun m r => some (m, r)) = x := by
  cases x <;> rfl
theorem Sim.glue {α : Type} {fc fm : Mem → Option (Mem × α)} {m : Mem} {T : TT} {p : Nat} {P : Nat → TT} {n : Nat} {t q : TT} (h : Sim m T p P n t q) (r : α) (T' : TT) (p' : Nat) (P' : Nat → TT) (n' : Nat) (t' q' : TT) (hc : ∃ m1, fc m = some (m1, r) ∧ RC m1 T' p' P' n' t' q' ∧ CF m m1) (hm : ∀ m1, RM m1 T p P n t q → ∃ m2, fm m1 = some (m2, r) ∧ RM m2 T' p' P' n' t' q' ∧ MF m1 m2) (hI : IA T' p' P' n' t') : Res fc fm m := by
  obtain ⟨m1, c1, c2, c3⟩ := hc
  obtain ⟨m2, d1, d2, d3⟩ := hm m1 (h.2.1.of c3)
  exact ⟨m1, m2, r, T', p', P', n', t', q', c1, d1, c2.of d3, d2, hI⟩
theorem Sim.same {α : Type} {fc fm : Mem → Option (Mem × α)} {m : Mem} {T : TT} {p : Nat} {P : Nat → TT} {n : Nat} {t q : TT} (h : Sim m T p P n t q) (r : α) (hc : fc m = some (m, r)) (hm : ∀ m1, RM m1 T p P n t q → fm m1 = some (m1, r)) : Res fc fm m :=
  h.glue r T p P n t q ⟨m, hc, h.1, CF.rf⟩ (fun m1 h1 => ⟨m1, hm m1 h1, h1, MF.rf⟩) h.2.2
theorem c_refuse {m : Mem} {T : TT} {p : Nat} {P : Nat → TT} {n : Nat} {t q : TT} (h : RC m T p P n t q) {i : Nat} (hi : i < 3) : ∃ m', f_X8_refuse m (-10002 - nI i) = some (m', -10002 - nI i) ∧ RC m' T p P n t (upd q i (q i + 1)) ∧ CF m m' := by
  obtain ⟨⟨h1, h2⟩, h3, h4, h5, h6, ⟨h7, h8⟩, ⟨a, b, c⟩⟩ := h
  have g : ∀ j v, (q' : TT) → (up m 0 j v 0 5 = q' 0 ∧ up m 0 j v 0 6 = q' 1 ∧ up m 0 j v 0 7 = q' 2) → RC (up m 0 j v) T p P n t q' ∧ CF m (up m 0 j v) := by
    intro j v q' hq
    have e : ∀ k, k ≠ 0 → up m 0 j v k = m k := fun k hk => up_ne hk
    have ek : ∀ i, kK (up m 0 j v) i = kK m i := fun i => by unfold kK; rw [e 55 (by decide)]
    have hn : ∀ n, n < 16 → up m 0 j v (6 + 2 * n) = m (6 + 2 * n) ∧ up m 0 j v (7 + 2 * n) = m (7 + 2 * n) := fun n hn => ⟨e _ (by omega), e _ (by omega)⟩
    refine ⟨⟨⟨by rw [e 54 (by decide), h1], h2⟩, ?_, h4.fr (fun c hc => e _ (by omega)), h5.fr hn, fun i hi => ?_, ⟨by rw [e 1 (by decide), h7], fun j hj => by rw [e 2 (by decide), h8 j hj]⟩, hq⟩, fun k hk => e k (by omega)⟩
    · unfold HP
      simp only [ek]
      exact h3
    · have hk := h3.1 i (by omega)
      have := st_rng hk.1 hk.2
      rw [ek]
      exact ⟨(h6 i hi).1.fr (fun c hc => e _ (by omega)), (h6 i hi).2.fr hn⟩
  unfold f_X8_refuse
  rcases (show i = 0 ∨ i = 1 ∨ i = 2 by omega) with e | e | e <;> subst e
  · rw [if_pos (by decide), lm_def]
    exact ⟨_, rfl, g _ _ _ (by simp [up, upd, a, b, c])⟩
  · rw [if_neg (by decide), if_pos (by decide), lm_def]
    exact ⟨_, rfl, g _ _ _ (by simp [up, upd, a, b, c])⟩
  · rw [if_neg (by decide), if_neg (by decide), lm_def]
    exact ⟨_, rfl, g _ _ _ (by simp [up, upd, a, b, c])⟩
theorem m_refuse {m : Mem} {T : TT} {p : Nat} {P : Nat → TT} {n : Nat} {t q : TT} (h : RM m T p P n t q) {i : Nat} (hi : i < 3) : ∃ m', f_X9_refuses m (-10002 - nI i) = some (m', -10002 - nI i) ∧ RM m' T p P n t (upd q i (q i + 1)) ∧ MF m m' := by
  obtain ⟨h1, h2, h3, h4, h5, h6⟩ := h
  unfold f_X9_refuses
  have e : (-10002 : Int32) - (-10002 - nI i) = nI i := by grind
  rw [e, gd_of (inR_nI hi (by decide)), gd_of (inR_nI hi (by decide)), ix_nI (by omega), lm_def]
  have f : ∀ v, ∀ k, k ≠ 115 → up m 115 i v k = m k := fun v k hk => up_ne hk
  refine ⟨_, rfl, ⟨by rw [f _ 111 (by decide), h1], by rw [f _ 112 (by decide), h2], fun i j hi hj => by rw [f _ 114 (by decide), h3 i j hi hj], by rw [f _ 111 (by decide), h4], fun j hj => by rw [f _ 116 (by decide), h5 j hj], fun j hj => ?_⟩, fun k hk => f _ k (by omega)⟩
  have := h6 j hj
  have := h6 i hi
  grind [up, upd]
theorem Sim.ref {fc fm : Mem → Option (Mem × Int32)} {m : Mem} {T : TT} {p : Nat} {P : Nat → TT} {n : Nat} {t q : TT} (h : Sim m T p P n t q) (i : Nat) (hi : i < 3) (hc : fc m = f_X8_refuse m (-10002 - nI i)) (hm : ∀ m1, RM m1 T p P n t q → fm m1 = f_X9_refuses m1 (-10002 - nI i)) : Res fc fm m := by
  refine h.glue (-10002 - nI i) T p P n t (upd q i (q i + 1)) ?_ (fun m1 h1 => ?_) h.2.2
  · rw [hc]; exact c_refuse h.1 hi
  · rw [hm m1 h1]; exact m_refuse h1 hi
theorem IA_push {T T' : TT} {p : Nat} {P : Nat → TT} {n : Nat} {t : TT} (h : IA T p P n t) (hT : IT T') (h0 : T 0 ≤ T' 0) : IA T' (pN p) (pP p P T) n t := by
  obtain ⟨h1, h2, h3, h4, h5, h6⟩ := h
  unfold pN pP
  by_cases e : p = 5
  · subst e
    refine ⟨hT, by simp, fun i hi => ?_, fun i j hij hj => ?_, fun i hi => ?_, h6⟩ <;> simp at *
    · by_cases e : i = 4 <;> simp only [e, if_true, if_false]
      · exact h1
      · exact h3 (i + 1) (by omega)
    · rw [if_neg (by omega)]
      by_cases e : j = 4 <;> simp only [e, if_true, if_false]
      · exact h5 (i + 1) (by omega)
      · exact h4 (i + 1) (j + 1) (by omega) (by omega)
    · by_cases e : i = 4 <;> simp only [e, if_true, if_false]
      · exact h0
      · have := h5 (i + 1) (by omega)
        grind
  · simp only [if_neg e]
    refine ⟨hT, by omega, fun i hi => ?_, fun i j hij hj => ?_, fun i hi => ?_, h6⟩
    · by_cases e : i = p <;> simp only [e, if_true, if_false]
      · exact h1
      · exact h3 i (by omega)
    · show (if i = p then T else P i) 0 ≤ (if j = p then T else P j) 0
      rw [if_neg (by omega)]
      by_cases e : j = p <;> simp only [e, if_true, if_false]
      · exact h5 i (by omega)
      · exact h4 i j (by omega) (by omega)
    · by_cases e : i = p <;> simp only [e, if_true, if_false]
      · exact h0
      · have := h5 i (by omega)
        grind
theorem Sim.chg {fc fm : Mem → Option (Mem × Int32)} {m : Mem} {T : TT} {p : Nat} {P : Nat → TT} {n : Nat} {t q : TT} (N : Nat) (hN : 1400 ≤ N) (h : Sim m T p P n t q) (T' : TT) (r : Int32) (gc gm k3 : Mem → Option (Mem × Int32)) (hc : fc m = bm (f_X0_keep N 43 m) (fun m1 _ => gc m1)) (hc2 : ∀ m1, RSt m1 43 T → (∀ k, k < 54 → m1 k = m k) → ∃ m2, gc m1 = some (m2, r) ∧ RSt m2 43 T' ∧ ∀ k, (k < 43 ∨ 53 < k) → m2 k = m1 k) (hm : ∀ m1, RM m1 T p P n t q → fm m1 = bm (f_X9_hold N m1) (fun m2 _ => gm m2)) (hm2 : ∀ m2, m2 112 = T → gm m2 = bm (f_X9_push N (setC m2 112 T')) (fun m3 _ => k3 m3)) (hk : ∀ m3, m3 112 = T' → k3 m3 = some (m3, r)) (hs : SS T T') (hd : ID T') : Res fc fm m := by
  refine h.glue r T' (pN p) (pP p P T) n t q ?_ (fun m1 h1 => ?_) (IA_push h.2.2 (h.2.2.1.of hs hd) (by rw [hs.1]; exact Int32.le_refl _))
  · obtain ⟨m1, e1, e2, e3, e4⟩ := c_keep N (by omega) m T p P n t q h.1 h.2.2.1
    obtain ⟨m2, d1, d2, d3⟩ := hc2 m1 e2.2.2.1 e4
    rw [hc, e1, bm_some, d1]
    exact ⟨m2, rfl, e2.now d2 hs d3, e3.tr (fun k hk => d3 k (by omega))⟩
  · rw [hm m1 h1, m_hold N (by omega) m1, bm_some]
    generalize hg : setC m1 113 (fun j => if j < 347 then m1 112 j else m1 113 j) = m2
    have f : ∀ k, k ≠ 113 → m2 k = m1 k := fun k hk => by rw [← hg, setC_ne hk]
    obtain ⟨h1, h2, h3, h4, h5, h6⟩ := h1
    rw [hm2 m2 (by rw [f 112 (by decide), h2])]
    have f2 : ∀ k, k ≠ 112 → setC m2 112 T' k = m2 k := fun k hk => setC_ne hk
    have hr : RM (setC m2 112 T') T' p P n t q := by
      unfold RM
      rw [f2 111 (by decide), f2 114 (by decide), f2 115 (by decide), f2 116 (by decide), f 111 (by decide), f 114 (by decide), f 115 (by decide), f 116 (by decide)]
      exact ⟨h1, setC_at, h3, h4, h5, h6⟩
    obtain ⟨m3, e1, e2, e3⟩ := m_push N hN (setC m2 112 T') T T' p P n t q hr h.2.2.2.1 (fun j hj => by rw [f2 113 (by decide), ← hg, setC_at, if_pos hj, h2])
    rw [e1, bm_some, hk m3 e2.2.1]
    refine ⟨m3, rfl, e2, fun k hk => ?_⟩
    rw [e3 k hk, f2 k (by omega), f k (by omega)]
