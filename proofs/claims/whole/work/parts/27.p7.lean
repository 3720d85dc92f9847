/-! the two pictures of the whole -/
def kK (m : Mem) (i : Nat) : Nat := ix (m 55 i)
def HP (m : Mem) : Prop := (∀ i, i < 5 → isSt (kK m i) = true ∧ kK m i ≠ 43) ∧ ∀ i j, i < 5 → j < 5 → i ≠ j → kK m i ≠ kK m j
def RC (m : Mem) (T : TT) (p : Nat) (P : Nat → TT) (n : Nat) (t q : TT) : Prop :=
  (m 54 1 = nI p ∧ p ≤ 5) ∧ HP m ∧ RSt m 43 T ∧ RNd m T ∧ (∀ i, i < p → RSt m (kK m i) (P i) ∧ RNd m (P i)) ∧ (m 1 1 = nI n ∧ ∀ j, j < n → m 2 j = t j) ∧ (m 0 5 = q 0 ∧ m 0 6 = q 1 ∧ m 0 7 = q 2)
def RM (m : Mem) (T : TT) (p : Nat) (P : Nat → TT) (n : Nat) (t q : TT) : Prop :=
  m 111 3 = nI p ∧ m 112 = T ∧ (∀ i j, i < p → j < 347 → m 114 (347 * i + j) = P i j) ∧ m 111 6 = nI n ∧ (∀ j, j < n → m 116 j = t j) ∧ (∀ i, i < 3 → m 115 i = q i)
def IA (T : TT) (p : Nat) (P : Nat → TT) (n : Nat) (t : TT) : Prop :=
  IT T ∧ p ≤ 5 ∧ (∀ i, i < p → IT (P i)) ∧ (∀ i j, i < j → j < p → P i 0 ≤ P j 0) ∧ (∀ i, i < p → P i 0 ≤ T 0) ∧ n ≤ 100 ∧ ∀ j, j < n → 0 ≤ t j ∧ t j ≤ 127
def CF (m m' : Mem) : Prop := ∀ k, 111 ≤ k → m' k = m k
def MF (m m' : Mem) : Prop := ∀ k, k < 111 → m' k = m k
def pP (p : Nat) (P : Nat → TT) (T : TT) : Nat → TT := fun i => if p = 5 then (if i = 4 then T else P (i + 1)) else if i = p then T else P i
def pN (p : Nat) : Nat := if p = 5 then 5 else p + 1
theorem st_far {a b : Nat} (ha : isSt a = true) (hb : isSt b = true) (h : a ≠ b) : a + 11 ≤ b ∨ b + 11 ≤ a := by
  have := isSt_cases ha
  have := isSt_cases hb
  omega
theorem st_rng {a : Nat} (ha : isSt a = true) (h : a ≠ 43) : 56 ≤ a ∧ a ≤ 100 := by
  have := isSt_cases ha
  omega
theorem RC.of {m m' : Mem} {T : TT} {p : Nat} {P : Nat → TT} {n : Nat} {t q : TT} (h : RC m T p P n t q) (f : MF m m') : RC m' T p P n t q := by
  obtain ⟨⟨h1, h2⟩, h3, h4, h5, h6, ⟨h7, h8⟩, h9⟩ := h
  have e : ∀ i, kK m' i = kK m i := fun i => by unfold kK; rw [f 55 (by decide)]
  have hn : ∀ n, n < 16 → m' (6 + 2 * n) = m (6 + 2 * n) ∧ m' (7 + 2 * n) = m (7 + 2 * n) := fun n hn => ⟨f _ (by omega), f _ (by omega)⟩
  refine ⟨⟨by rw [f 54 (by decide), h1], h2⟩, ?_, h4.fr (fun c hc => f _ (by omega)), h5.fr hn, fun i hi => ?_, ⟨by rw [f 1 (by decide), h7], fun j hj => by rw [f 2 (by decide), h8 j hj]⟩, by rw [f 0 (by decide)]; exact h9⟩
  · unfold HP
    simp only [e]
    exact h3
  · have hk := h3.1 i (by omega)
    have := st_rng hk.1 hk.2
    rw [e]
    exact ⟨(h6 i hi).1.fr (fun c hc => f _ (by omega)), (h6 i hi).2.fr hn⟩
theorem RM.of {m m' : Mem} {T : TT} {p : Nat} {P : Nat → TT} {n : Nat} {t q : TT} (h : RM m T p P n t q) (f : CF m m') : RM m' T p P n t q := by
  unfold RM
  rw [f 111 (by decide), f 112 (by decide), f 114 (by decide), f 115 (by decide), f 116 (by decide)]
  exact h
theorem RC.now {m m' : Mem} {T T' : TT} {p : Nat} {P : Nat → TT} {n : Nat} {t q : TT} (h : RC m T p P n t q) (hr : RSt m' 43 T') (hs : SS T T') (f : ∀ k, (k < 43 ∨ 53 < k) → m' k = m k) : RC m' T' p P n t q := by
  obtain ⟨⟨h1, h2⟩, h3, h4, h5, h6, ⟨h7, h8⟩, h9⟩ := h
  have e : ∀ i, kK m' i = kK m i := fun i => by unfold kK; rw [f 55 (by decide)]
  have hn : ∀ n, n < 16 → m' (6 + 2 * n) = m (6 + 2 * n) ∧ m' (7 + 2 * n) = m (7 + 2 * n) := fun n hn => ⟨f _ (by omega), f _ (by omega)⟩
  refine ⟨⟨by rw [f 54 (by decide), h1], h2⟩, ?_, hr, (h5.fr hn).of hs, fun i hi => ?_, ⟨by rw [f 1 (by decide), h7], fun j hj => by rw [f 2 (by decide), h8 j hj]⟩, by rw [f 0 (by decide)]; exact h9⟩
  · unfold HP
    simp only [e]
    exact h3
  · have hk := h3.1 i (by omega)
    have := st_rng hk.1 hk.2
    rw [e]
    exact ⟨(h6 i hi).1.fr (fun c hc => f _ (by omega)), (h6 i hi).2.fr hn⟩
theorem c_drop (N : Nat) (hN : 60 ≤ N) (m : Mem) (h : HP m) : ∃ M, f_X0_dropOldest N m = some (M, ()) ∧ (∀ i, i < 4 → kK M i = kK m (i + 1)) ∧ kK M 4 = kK m 0 ∧ M 54 1 = nI 4 ∧ ∀ k, k ≠ 54 → k ≠ 55 → M k = m k := by
  obtain ⟨N, rfl⟩ : ∃ k, N = k + 5 := ⟨N - 5, by omega⟩
  have s0 : ∀ (R : Mem → Nat → Int32 → Option (Mem × Unit)) (m1 : Mem) (q i : Nat), i < 4 → m1 55 (i + 1) = m 55 (i + 1) → f_X0_dropOldest_9b (N + 5) R m1 q (nI (i + 1)) = R (up m1 55 i (nI (kK m (i + 1)))) q (nI (i + 2)) := by
    intro R m1 q i hi e
    unfold f_X0_dropOldest_9b
    have e1 : nI (i + 1) - 1 = nI i := by rw [show (1 : Int32) = nI 1 from rfl, pk_sub (by omega)]; rfl
    rw [if_neg (show ¬ (5 : Int32) ≤ nI (i + 1) from nI_ge (b := 5) (by omega) (by decide)), gd_of (inR_nI (by omega) (by decide)), e1, ix_nI (by omega), ix_nI (by omega), e, gd_of (show isSt (ix (m 55 (i + 1))) = true from (h.1 (i + 1) (by omega)).1), gd_of (inR_nI (by omega) (by decide)), lm_def, nI_1]
    rfl
  have s5 : ∀ (R : Mem → Nat → Int32 → Option (Mem × Unit)) (m1 : Mem) (q : Nat), f_X0_dropOldest_9b (N + 5) R m1 q (nI 5) = some (up (up m1 55 4 (nI q)) 54 1 4, ()) := by
    intro R m1 q
    unfold f_X0_dropOldest_9b
    rw [if_pos (by decide)]
    rfl
  unfold f_X0_dropOldest
  rw [show inR 0 5 = true from rfl, gd_t, show ix (0 : Int32) = 0 from rfl, gd_of (show isSt (ix (m 55 0)) = true from (h.1 0 (by decide)).1)]
  show ∃ M, f_X0_dropOldest_9b (N + 5) (f_X0_dropOldest_9b (N + 5) (f_X0_dropOldest_9b (N + 5) (f_X0_dropOldest_9b (N + 5) (f_X0_dropOldest_9b (N + 5) (f_X0_dropOldest_9 (N + 5) N))))) m (kK m 0) (nI (0 + 1)) = _ ∧ _
  rw [s0 _ _ _ 0 (by decide) rfl, s0 _ _ _ 1 (by decide) (by simp [up]), s0 _ _ _ 2 (by decide) (by simp [up]), s0 _ _ _ 3 (by decide) (by simp [up]), s5]
  have g : ∀ i, i < 5 → ix (nI (kK m i)) = kK m i := fun i hi => ix_nI (by have := st_rng (h.1 i hi).1 (h.1 i hi).2; omega)
  refine ⟨_, rfl, fun i hi => ?_, ?_, by simp [up]; rfl, fun k h1 h2 => by funext j; simp [up, h1, h2]⟩
  · rcases (show i = 0 ∨ i = 1 ∨ i = 2 ∨ i = 3 by omega) with e | e | e | e <;> subst e
    · have := g 1 (by decide); simp [kK, up] at this ⊢; exact this
    · have := g 2 (by decide); simp [kK, up] at this ⊢; exact this
    · have := g 3 (by decide); simp [kK, up] at this ⊢; exact this
    · have := g 4 (by decide); simp [kK, up] at this ⊢; exact this
  · have := g 0 (by decide); simp [kK, up] at this ⊢; exact this
