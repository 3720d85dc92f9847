/-! finding, as the model does it -/
theorem fdL_add {R : Type} {g : Nat → Option R} : ∀ a b x, fdL g (a + b) x = (fdL g a x).or (fdL g b (x + a)) := by
  intro a
  induction a with
  | zero => intro b x; rw [Nat.zero_add]; show _ = Option.or none _; rw [Option.none_or]; rfl
  | succ a ih =>
    intro b x
    rw [show a + 1 + b = (a + b) + 1 by omega]
    show (g x).or (fdL g (a + b) (x + 1)) = ((g x).or (fdL g a (x + 1))).or _
    rw [ih b (x + 1), Option.or_assoc, show x + 1 + a = x + (a + 1) by omega]
theorem fdL_no {R : Type} {g : Nat → Option R} : ∀ k x, (∀ y, x ≤ y → y < x + k → g y = none) → fdL g k x = none := by
  intro k
  induction k with
  | zero => intro x _; rfl
  | succ k ih =>
    intro x h
    show (g x).or _ = none
    rw [h x (by omega) (by omega), ih (x + 1) (fun y h1 h2 => h y (by omega) (by omega))]
    rfl
theorem fdL_tr {R : Type} {g : Nat → Option R} (K lo k : Nat) (hlo : lo + k ≤ K) (h : ∀ y, y < K → ¬ (lo ≤ y ∧ y < lo + k) → g y = none) : fdL g K 0 = fdL g k lo := by
  obtain ⟨r, rfl⟩ : ∃ r, K = lo + (k + r) := ⟨K - lo - k, by omega⟩
  rw [fdL_add lo (k + r) 0, fdL_no lo 0 (fun y h1 h2 => h y (by omega) (by omega)), Option.none_or, Nat.zero_add, fdL_add k r lo, fdL_no r (lo + k) (fun y h1 h2 => h y (by omega) (by omega)), Option.or_none]
theorem fdL_sh {R : Type} {g : Nat → Option R} : ∀ k x s, fdL (fun y => g (y - s)) k (x + s) = fdL g k x := by
  intro k
  induction k with
  | zero => intro x s; rfl
  | succ k ih =>
    intro x s
    show (g (x + s - s)).or (fdL _ k (x + s + 1)) = (g x).or (fdL g k (x + 1))
    rw [show x + s - s = x by omega, show x + s + 1 = x + 1 + s by omega, ih]
/-- what the x-th look of a place finds -/
def gA (T : TT) (c j0 : Nat) (fit : Nat → Nat → Bool) (v a : Nat) (x : Nat) : Option (Nat × Bool) := if x < 16 then (if (1 ≤ x ∧ x < j0) ∧ T (27 + 20 * x) = nI v ∧ a < c ∧ fit x a = true then FD T c j0 fit x (a + 1) true else none) else (if (1 ≤ x - 16 ∧ x - 16 < j0) ∧ T (27 + 20 * (x - 16)) = nI v ∧ T (27 + 20 * (x - 16) + 3) = 1 then FD T c j0 fit (x - 16) a false else none)
theorem par_lt {T : TT} (hI : IT T) {x v : Nat} (hx : 1 ≤ x) (h16 : x < 16) (hv : v < 1000) (h0 : nI x < T 0) (h : T (27 + 20 * x) = nI v) : v < x := by
  have := (hI.2.2.2.2.2.2.2 x hx h16 h0).1.2
  rw [h] at this
  exact (nI_ltI (by omega) (by omega)).mp this
theorem FD_gA {T : TT} {c j0 : Nat} {fit : Nat → Nat → Bool} (hI : IT T) (hT0 : T 0 = nI j0) (hj : j0 ≤ 16) {v a : Nat} {fl : Bool} (hv : v < j0) : FD T c j0 fit v a fl = if a = c ∧ T (27 + 20 * v + 1) ≠ 0 then some (v, fl) else fdL (gA T c j0 fit v a) 32 0 := by
  rw [FD_eq hj (by omega)]
  congr 1
  rw [show (32 : Nat) = 16 + 16 from rfl, fdL_add]
  have hlt : ∀ x, x < j0 → nI x < T 0 := fun x hx => by rw [hT0]; exact nI_lt hx (by omega)
  congr 1
  · rw [fdL_cg (g := gA T c j0 fit v a) (g' := fun x => if (1 ≤ x ∧ x < j0) ∧ T (27 + 20 * x) = nI v ∧ a < c ∧ fit x a = true then FD T c j0 fit x (a + 1) true else none) 16 0 (fun y _ h => by unfold gA; rw [if_pos (by omega)])]
    rw [fdL_tr 16 (v + 1) (j0 - (v + 1)) (by omega) (fun y h1 h2 => if_neg (fun q => by
      have z := par_lt hI q.1.1 h1 (show v < 1000 by omega) (hlt y q.1.2) q.2.1
      omega))]
    exact fdL_cg _ _ (fun y h1 h2 => by
      by_cases q : T (27 + 20 * y) = nI v ∧ a < c ∧ fit y a = true
      · rw [if_pos q, if_pos ⟨by omega, q⟩]
      · rw [if_neg q, if_neg (fun z => q z.2)])
  · rw [fdL_cg (g := gA T c j0 fit v a) (g' := fun y => (fun x => if (1 ≤ x ∧ x < j0) ∧ T (27 + 20 * x) = nI v ∧ T (27 + 20 * x + 3) = 1 then FD T c j0 fit x a false else none) (y - 16)) 16 (0 + 16) (fun y h _ => by unfold gA; rw [if_neg (by omega)]), fdL_sh (g := fun x => if (1 ≤ x ∧ x < j0) ∧ T (27 + 20 * x) = nI v ∧ T (27 + 20 * x + 3) = 1 then FD T c j0 fit x a false else none)]
    rw [fdL_tr 16 (v + 1) (j0 - (v + 1)) (by omega) (fun y h1 h2 => if_neg (fun q => by
      have z := par_lt hI q.1.1 h1 (show v < 1000 by omega) (hlt y q.1.2) q.2.1
      omega))]
    exact fdL_cg _ _ (fun y h1 h2 => by
      by_cases q : T (27 + 20 * y) = nI v ∧ T (27 + 20 * y + 3) = 1
      · rw [if_pos q, if_pos ⟨by omega, q⟩]
      · rw [if_neg q, if_neg (fun z => q z.2)])
/-- what the model's finding looks at, and may touch -/
def MI (m : Mem) (n : Nat) (t T : TT) (c : Nat) (W : Nat → TT) : Prop := TM m n t ∧ m 112 = T ∧ m 111 10 = nI c ∧ ∀ s a, s < 3 → a < c → m (117 + s) a = W s a
def GF (m m' : Mem) : Prop := (∀ k, k ≠ 111 → (k < 120 ∨ 123 < k) → m' k = m k) ∧ ∀ j, j ≠ 15 → m' 111 j = m 111 j
theorem GF.rf {m : Mem} : GF m m := ⟨fun _ _ _ => rfl, fun _ _ => rfl⟩
theorem GF.tr {a b c : Mem} (h : GF a b) (g : GF b c) : GF a c := ⟨fun k h1 h2 => (g.1 k h1 h2).trans (h.1 k h1 h2), fun j h1 => (g.2 j h1).trans (h.2 j h1)⟩
theorem MI.of {m m' : Mem} {n : Nat} {t T : TT} {c : Nat} {W : Nat → TT} (h : MI m n t T c W) (f : GF m m') : MI m' n t T c W := by
  obtain ⟨h1, h2, h3, h4⟩ := h
  refine ⟨?_, by rw [f.1 112 (by decide) (by decide), h2], by rw [f.2 10 (by decide), h3], fun s a hs ha => by rw [f.1 _ (by omega) (by omega)]; exact h4 s a hs ha⟩
  unfold TM
  rw [f.2 6 (by decide), f.1 116 (by decide) (by decide)]
  exact h1
/-- the frame number s -/
def FR (m : Mem) (s v a : Nat) (fl : Bool) (x : Nat) : Prop := m 120 s = nI v ∧ m 121 s = nI a ∧ m 122 s = b2i fl ∧ m 123 s = nI x
/-- the frames below s stay -/
def BL (m m' : Mem) (s : Nat) : Prop := ∀ k j, 120 ≤ k → k ≤ 123 → j < s → m' k j = m k j
theorem m_pass {m : Mem} {s v a : Nat} {fl : Bool} (hs : s < 20) (hp : m 111 15 = nI s) : ∃ m', f_X9_pass m (nI v) (nI a) (b2i fl) = some (m', ()) ∧ m' 111 15 = nI (s + 1) ∧ FR m' s v a fl 0 ∧ GF m m' ∧ BL m m' s := by
  unfold f_X9_pass
  have u1 : ∀ w, up m 120 s w 111 15 = nI s := fun w => by rw [up_ne (by decide), hp]
  have u2 : ∀ w x, up (up m 120 s w) 121 s x 111 15 = nI s := fun w x => by rw [up_ne (by decide), u1]
  have u3 : ∀ w x y, up (up (up m 120 s w) 121 s x) 122 s y 111 15 = nI s := fun w x y => by rw [up_ne (by decide), u2]
  have u4 : ∀ w x y z, up (up (up (up m 120 s w) 121 s x) 122 s y) 123 s z 111 15 = nI s := fun w x y z => by rw [up_ne (by decide), u3]
  have nb : vp_nar .boolean (b2i fl) = b2i fl := by cases fl <;> decide
  simp only [hp, gd_of (inR_nI hs (show 20 < 2 ^ 31 by decide)), ix_nI (show s < 2 ^ 31 by omega), lm_def, u1, u2, u3, u4, nb, nI_1]
  refine ⟨_, rfl, by simp [up], ⟨by simp [up], by simp [up], by simp [up], by simp [up]; rfl⟩, ⟨fun k h1 h2 => ?_, fun j hj => ?_⟩, fun k j h1 h2 h3 => ?_⟩
  · rw [up_ne h1, up_ne (by omega), up_ne (by omega), up_ne (by omega), up_ne (by omega)]
  · simp [up, hj]
  · have : j ≠ s := by omega
    simp only [up]
    grind
