/-! finding: what is asked -/
def fdL {R : Type} (g : Nat → Option R) : Nat → Nat → Option R
  | 0, _ => none
  | k + 1, x => (g x).or (fdL g k (x + 1))
theorem fdL_cg {R : Type} {g g' : Nat → Option R} : ∀ k x, (∀ y, x ≤ y → y < x + k → g y = g' y) → fdL g k x = fdL g' k x := by
  intro k
  induction k with
  | zero => intro x _; rfl
  | succ k ih =>
    intro x h
    show (g x).or _ = (g' x).or _
    rw [h x (by omega) (by omega), ih (x + 1) (fun y h1 h2 => h y (by omega) (by omega))]
theorem fdL_some {R : Type} {g : Nat → Option R} : ∀ k x r, fdL g k x = some r → ∃ y, x ≤ y ∧ y < x + k ∧ g y = some r := by
  intro k
  induction k with
  | zero => intro x r h; simp [fdL] at h
  | succ k ih =>
    intro x r h
    change (g x).or (fdL g k (x + 1)) = some r at h
    cases hx : g x with
    | some y =>
      rw [hx] at h
      simp at h
      exact ⟨x, by omega, by omega, by rw [hx, h]⟩
    | none =>
      rw [hx] at h
      simp at h
      obtain ⟨y, h1, h2, h3⟩ := ih (x + 1) r h
      exact ⟨y, by omega, by omega, h3⟩
def fd (T : TT) (c j0 : Nat) (fit : Nat → Nat → Bool) : Nat → Nat → Nat → Bool → Option (Nat × Bool)
  | 0, _, _, _ => none
  | d + 1, v, a, fl => if a = c ∧ T (27 + 20 * v + 1) ≠ 0 then some (v, fl) else (fdL (fun x => if T (27 + 20 * x) = nI v ∧ a < c ∧ fit x a = true then fd T c j0 fit d x (a + 1) true else none) (j0 - (v + 1)) (v + 1)).or (fdL (fun x => if T (27 + 20 * x) = nI v ∧ T (27 + 20 * x + 3) = 1 then fd T c j0 fit d x a false else none) (j0 - (v + 1)) (v + 1))
theorem fd_st {T : TT} {c j0 : Nat} {fit : Nat → Nat → Bool} (hj : j0 ≤ 16) : ∀ d d' v a fl, v < 16 → 16 - v ≤ d → 16 - v ≤ d' → fd T c j0 fit d v a fl = fd T c j0 fit d' v a fl := by
  intro d
  induction d with
  | zero => intro d' v a fl h1 h2; omega
  | succ d ih =>
    intro d' v a fl h1 h2 h3
    obtain ⟨d', rfl⟩ : ∃ k, d' = k + 1 := ⟨d' - 1, by omega⟩
    unfold fd
    rw [fdL_cg (g := fun x => if T (27 + 20 * x) = nI v ∧ a < c ∧ fit x a = true then fd T c j0 fit d x (a + 1) true else none) (g' := fun x => if T (27 + 20 * x) = nI v ∧ a < c ∧ fit x a = true then fd T c j0 fit d' x (a + 1) true else none) _ _ (fun y h4 h5 => ?_), fdL_cg (g := fun x => if T (27 + 20 * x) = nI v ∧ T (27 + 20 * x + 3) = 1 then fd T c j0 fit d x a false else none) (g' := fun x => if T (27 + 20 * x) = nI v ∧ T (27 + 20 * x + 3) = 1 then fd T c j0 fit d' x a false else none) _ _ (fun y h4 h5 => ?_)]
    · show (if _ then _ else _) = (if _ then _ else _)
      rw [ih d' y a false (by omega) (by omega) (by omega)]
    · show (if _ then _ else _) = (if _ then _ else _)
      rw [ih d' y (a + 1) true (by omega) (by omega) (by omega)]
/-- the finding with fuel enough -/
def FD (T : TT) (c j0 : Nat) (fit : Nat → Nat → Bool) (v a : Nat) (fl : Bool) : Option (Nat × Bool) := fd T c j0 fit 16 v a fl
theorem FD_eq {T : TT} {c j0 : Nat} {fit : Nat → Nat → Bool} (hj : j0 ≤ 16) {v a : Nat} {fl : Bool} (hv : v < 16) : FD T c j0 fit v a fl = if a = c ∧ T (27 + 20 * v + 1) ≠ 0 then some (v, fl) else (fdL (fun x => if T (27 + 20 * x) = nI v ∧ a < c ∧ fit x a = true then FD T c j0 fit x (a + 1) true else none) (j0 - (v + 1)) (v + 1)).or (fdL (fun x => if T (27 + 20 * x) = nI v ∧ T (27 + 20 * x + 3) = 1 then FD T c j0 fit x a false else none) (j0 - (v + 1)) (v + 1)) := by
  unfold FD
  rw [fd_st hj 16 17 v a fl hv (by omega) (by omega)]
  rfl
theorem FD_c {T : TT} {c j0 : Nat} {fit : Nat → Nat → Bool} (hj : j0 ≤ 16) : ∀ k v fl u g, 16 - v ≤ k → v < 16 → FD T c j0 fit v c fl = some (u, g) → (u = v ∧ g = fl) ∨ (v < u ∧ g = false) := by
  intro k
  induction k with
  | zero => intro v fl u g h1 h2; omega
  | succ k ih =>
    intro v fl u g h1 h2 h
    rw [FD_eq hj h2] at h
    by_cases hk : c = c ∧ T (27 + 20 * v + 1) ≠ 0
    · rw [if_pos hk] at h
      simp only [Option.some.injEq, Prod.mk.injEq] at h
      left
      exact ⟨h.1.symm, h.2.symm⟩
    · right
      rw [if_neg hk] at h
      rw [fdL_cg (g := fun x => if T (27 + 20 * x) = nI v ∧ c < c ∧ fit x c = true then FD T c j0 fit x (c + 1) true else none) (g' := fun _ => none) _ _ (fun y _ _ => by show (if _ then _ else _) = _; rw [if_neg (by omega)])] at h
      have hn : ∀ k x, fdL (R := Nat × Bool) (fun _ => none) k x = none := by
        intro k
        induction k with
        | zero => intro x; rfl
        | succ k ih => intro x; show (none : Option (Nat × Bool)).or _ = none; rw [ih]; rfl
      rw [hn, Option.none_or] at h
      obtain ⟨y, h3, h4, h5⟩ := fdL_some _ _ _ h
      by_cases hy : T (27 + 20 * y) = nI v ∧ T (27 + 20 * y + 3) = 1
      · rw [if_pos hy] at h5
        rcases ih y false u g (by omega) (by omega) h5 with q | q
        · exact ⟨by omega, q.2⟩
        · exact ⟨by omega, q.2⟩
      · rw [if_neg hy] at h5
        simp at h5
theorem FD_fl {T : TT} {c j0 : Nat} {fit : Nat → Nat → Bool} (hj : j0 ≤ 16) {v a : Nat} (hv : v < 16) (f1 f2 : Bool) : (FD T c j0 fit v a f1).map Prod.fst = (FD T c j0 fit v a f2).map Prod.fst ∧ (a ≠ c → FD T c j0 fit v a f1 = FD T c j0 fit v a f2) := by
  rw [FD_eq hj hv, FD_eq hj hv]
  by_cases hk : a = c ∧ T (27 + 20 * v + 1) ≠ 0
  · rw [if_pos hk, if_pos hk]
    exact ⟨rfl, fun q => absurd hk.1 q⟩
  · rw [if_neg hk, if_neg hk]
    exact ⟨rfl, fun _ => rfl⟩
/-! fitting -/
abbrev fitP (n : Nat) (t T : TT) (W : Nat → TT) (x a : Nat) : Prop := W 2 a ≤ T (27 + 20 * x + 2) ∧ (W 1 a = T (27 + 20 * x + 10) ∨ W 1 a = T (27 + 20 * x + 11)) ∧ ∀ j, j < ix (W 1 a) → sml (ch n t (ix (W 0 a) + j)) = T (27 + 20 * x + 12 + j)
def WI (n : Nat) (W : Nat → TT) (c : Nat) : Prop := ∀ a, a < c → ∃ st l, W 0 a = nI st ∧ W 1 a = nI l ∧ 1 ≤ l ∧ l ≤ 8 ∧ st + l ≤ n
theorem WI_up {n : Nat} {t : TT} {W : Nat → TT} {c i : Nat} (h : WI n W c) (ho : wOk n t i) : WI n (upW W n t c i) (c + 1) := by
  have hl := wOk_lt ho
  intro a ha
  by_cases hc : a = c
  · subst hc
    refine ⟨i, wE n t i - i, ?_, ?_, ho.1, ho.2, by omega⟩
    · simp [upW]
    · simp [upW]
  · obtain ⟨st, l, h1, h2, h3⟩ := h a (by omega)
    refine ⟨st, l, ?_, ?_, h3⟩
    · simp [upW, hc, h1]
    · simp [upW, hc, h2]
theorem WI_tail {n : Nat} {t : TT} : ∀ r e c W e' c' W', tailR n t r e c W = some (e', c', W') → WI n W c → WI n W' c' := by
  intro r
  induction r with
  | zero =>
    intro e c W e' c' W' h hw
    unfold tailR at h
    by_cases h58 : ch n t e = 58
    · rw [if_pos h58] at h; simp at h
    · rw [if_neg h58] at h
      simp only [Option.some.injEq, Prod.mk.injEq] at h
      rw [← h.2.1, ← h.2.2]; exact hw
  | succ r ih =>
    intro e c W e' c' W' h hw
    unfold tailR at h
    by_cases h58 : ch n t e = 58
    · rw [if_pos h58] at h
      by_cases hq : wOk n t (e + 1) ∧ c < 6
      · rw [if_pos hq] at h
        exact ih _ _ _ _ _ _ h (WI_up hw hq.1)
      · rw [if_neg hq] at h; simp at h
    · rw [if_neg h58] at h
      simp only [Option.some.injEq, Prod.mk.injEq] at h
      rw [← h.2.1, ← h.2.2]; exact hw
theorem WI_row {n : Nat} {t : TT} {r i c e' c' : Nat} {W W' : Nat → TT} (h : rowR n t r i c W = some (e', c', W')) (hw : WI n W c) : WI n W' c' := by
  unfold rowR at h
  by_cases hq : wOk n t i ∧ c < 6
  · rw [if_pos hq] at h
    exact WI_tail _ _ _ _ _ _ _ h (WI_up hw hq.1)
  · rw [if_neg hq] at h; simp at h
theorem c_fit {m : Mem} {n : Nat} {t T : TT} {N : Nat} (hN : 200 ≤ N) (h : TC m n t) (hn : RNd m T) (hI : IT T) {W : Nat → TT} {c a x : Nat} (hw : WI n W c) (ha : a < c) (hx : x < 16) (hx1 : 1 ≤ x) (hx2 : nI x < T 0) (hx3 : x < ix (T 0)) : f_X1_isFitBy N (6 + 2 * x) m (W 0 a) (W 1 a) (W 2 a) = some (m, if fitP n t T W x a then 1 else 0) := by
  obtain ⟨st, l, w0, w1, l1, l2, l3⟩ := hw a ha
  obtain ⟨r0, r1, r2, r3, r4, r5, r6⟩ := hn x hx3 hx
  have hnn := h.2.2
  obtain ⟨i1, i2, i3, i4, ⟨i5, i6, i7⟩, i8⟩ := hI.2.2.2.2.2.2.2 x hx1 hx hx2
  have eP : fitP n t T W x a ↔ (W 2 a ≤ T (27 + 20 * x + 2) ∧ (nI l = T (27 + 20 * x + 10) ∨ nI l = T (27 + 20 * x + 11)) ∧ ∀ j, j < l → sml (ch n t (st + j)) = T (27 + 20 * x + 12 + j)) := by
    unfold fitP
    rw [w0, w1, ix_nI (by omega), ix_nI (by omega)]
  generalize hR : (if fitP n t T W x a then (1 : Int32) else 0) = R
  have R1 : fitP n t T W x a → R = 1 := fun q => by rw [← hR, if_pos q]
  have R0 : ¬ fitP n t T W x a → R = 0 := fun q => by rw [← hR, if_neg q]
  unfold f_X1_isFitBy f_X1_isFitBy_35
  rw [r2, r4, r5, w1, if_pos (show nI l ≤ (8 : Int32) from nI_le (b := 8) l2 (by decide)), w0]
  by_cases q1 : W 2 a ≤ T (27 + 20 * x + 2)
  · rw [if_neg (by grind)]
    have cmp : nI l ≤ T (27 + 20 * x + 11) → f_X1_isFitBy_38 N (6 + 2 * x) N m (nI st) (nI l) 0 = some (m, if ∀ j, j < l → sml (ch n t (st + j)) = T (27 + 20 * x + 12 + j) then 1 else 0) := by
      intro hll
      have hj : ∀ j, j < l → (cap (ch n t (st + j)) = m (7 + 2 * x) j ↔ sml (ch n t (st + j)) = T (27 + 20 * x + 12 + j)) := by
        intro j hj
        have hjl : nI j < T (27 + 20 * x + 11) := by
          have := nI_lt hj (show l < 2 ^ 31 by omega)
          grind
        have e1 := r6 j (by omega) hjl
        have e2 := i8 j (by omega) hjl
        generalize ch n t (st + j) = cc
        unfold cap sml
        grind
      have g : ∀ d y f, y + d = l → d < f → f_X1_isFitBy_38 N (6 + 2 * x) f m (nI st) (nI l) (nI y) = some (m, if ∀ j, j < l → y ≤ j → sml (ch n t (st + j)) = T (27 + 20 * x + 12 + j) then 1 else 0) := by
        intro d
        induction d with
        | zero =>
          intro y f h1 h2
          obtain ⟨f, rfl⟩ : ∃ k, f = k + 1 := ⟨f - 1, by omega⟩
          show f_X1_isFitBy_38b N (6 + 2 * x) (f_X1_isFitBy_38 N (6 + 2 * x) f) m (nI st) (nI l) (nI y) = _
          unfold f_X1_isFitBy_38b
          rw [if_pos (nI_le (by omega) (by omega)), if_pos (fun j h1 h2 => by omega)]
        | succ d ih =>
          intro y f h1 h2
          obtain ⟨f, rfl⟩ : ∃ k, f = k + 1 := ⟨f - 1, by omega⟩
          show f_X1_isFitBy_38b N (6 + 2 * x) (f_X1_isFitBy_38 N (6 + 2 * x) f) m (nI st) (nI l) (nI y) = _
          unfold f_X1_isFitBy_38b
          rw [if_neg (nI_ge (by omega) (by omega)), nI_add, c_capitalAt h (by omega), bm_some, gd_of (inR_nI (by omega) (by omega)), ix_nI (by omega), show 6 + 2 * x + 1 = 7 + 2 * x by omega]
          by_cases hq : cap (ch n t (st + y)) = m (7 + 2 * x) y
          · rw [if_pos hq, nI_1, ih (y + 1) f (by omega) (by omega)]
            by_cases hh : ∀ j, j < l → y + 1 ≤ j → sml (ch n t (st + j)) = T (27 + 20 * x + 12 + j)
            · rw [if_pos hh, if_pos (fun j h2 h1 => by
                rcases Nat.eq_or_lt_of_le h1 with e | e
                · rw [← e]; exact (hj y (by omega)).mp hq
                · exact hh j h2 e)]
            · rw [if_neg hh, if_neg (fun q => hh (fun j h2 h1 => q j h2 (by omega)))]
          · rw [if_neg hq, if_neg (fun q => hq ((hj y (by omega)).mpr (q y (by omega) (by omega))))]
      have := g l 0 N (by omega) (by omega)
      rw [show f_X1_isFitBy_38 N (6 + 2 * x) N m (nI st) (nI l) 0 = _ from this]
      by_cases hh : ∀ j, j < l → sml (ch n t (st + j)) = T (27 + 20 * x + 12 + j)
      · rw [if_pos hh, if_pos (fun j h _ => hh j h)]
      · rw [if_neg hh, if_neg (fun q => hh (fun j h => q j h (by omega)))]
    by_cases q2 : nI l = T (27 + 20 * x + 10)
    · rw [if_pos q2, cmp (by rw [q2]; exact i6)]
      by_cases q4 : ∀ j, j < l → sml (ch n t (st + j)) = T (27 + 20 * x + 12 + j)
      · rw [if_pos q4, R1 (eP.mpr ⟨q1, .inl q2, q4⟩)]
      · rw [if_neg q4, R0 (fun q => q4 (eP.mp q).2.2)]
    · rw [if_neg q2]
      by_cases q3 : nI l = T (27 + 20 * x + 11)
      · rw [if_pos q3, cmp (by rw [q3]; exact Int32.le_refl _)]
        by_cases q4 : ∀ j, j < l → sml (ch n t (st + j)) = T (27 + 20 * x + 12 + j)
        · rw [if_pos q4, R1 (eP.mpr ⟨q1, .inr q3, q4⟩)]
        · rw [if_neg q4, R0 (fun q => q4 (eP.mp q).2.2)]
      · rw [if_neg q3, R0 (fun q => (eP.mp q).2.1.elim q2 q3)]
  · rw [if_pos (by grind), R0 (fun q => q1 (eP.mp q).1)]
