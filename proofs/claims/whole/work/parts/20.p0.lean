/-! pure level: base -/
theorem bm_some {α β : Type} (a : Mem) (b : β) (k : Mem → β → Option α) : bm (some (a, b)) k = k a b := rfl
theorem lm_def {α : Type} (a : Mem) (k : Mem → Option α) : lm a k = k a := rfl
theorem gd_of {α : Type} {b : Bool} (h : b = true) (x : Option α) : gd b x = x := by rw [h]; rfl
theorem gd_t {α : Type} (x : Option α) : gd true x = x := rfl
theorem if01 {p : Prop} [Decidable p] {α : Type} (a b : α) : (if (if p then (1 : Int32) else 0) = 0 then a else b) = if p then b else a := by
  by_cases h : p <;> simp [h]
theorem isB01 {p : Prop} [Decidable p] : isB (if p then (1 : Int32) else 0) = true := by
  by_cases h : p <;> simp [h] <;> decide
theorem inR_nI {i n : Nat} (h : i < n) (hn : n < 2 ^ 31) : inR (nI i) n = true := decide_eq_true (nI_in h hn)
theorem ix_nI {n : Nat} (h : n < 2 ^ 31) : ix (nI n) = n := nI_clamp h
theorem lit {n : Nat} : Int32.ofNat n = nI n := rfl
theorem c_within (m : Mem) (x a b : Int32) : f_X8_isWithin m x a b = some (m, if a ≤ x ∧ x ≤ b then 1 else 0) := by
  unfold f_X8_isWithin
  grind
theorem m_in (m : Mem) (x a b : Int32) : f_X9_in m x a b = some (m, if a ≤ x ∧ x ≤ b then 1 else 0) := by
  unfold f_X9_in
  grind
/-- a number between 0 and b is one of the first -/
theorem rng {x : Int32} {b : Nat} (hb : b < 2 ^ 31) (h0 : 0 ≤ x) (h1 : x ≤ nI b) : ∃ j : Nat, j ≤ b ∧ x = nI j := by
  have h : ¬ x < 0 := by grind
  obtain ⟨j, hj, e⟩ := nI_of h
  refine ⟨j, ?_, e⟩
  rw [e] at h1
  exact (nI_leI hj hb).mp h1
theorem node_ix {n w : Nat} (h : n < 16) (hw : w < 20) : ix (27 + 20 * nI n + nI w) = 27 + 20 * n + w ∧ inR (27 + 20 * nI n + nI w) 347 = true := by
  have e : (27 : Int32) + 20 * nI n + nI w = nI (27 + 20 * n + w) := by
    rw [show (27 : Int32) = nI 27 from rfl, show (20 : Int32) = nI 20 from rfl, pk_mul, nI_add, nI_add]
  rw [e]
  exact ⟨nI_clamp (by omega), inR_nI (by omega) (by decide)⟩
/-! the abstract state and the two pictures of it -/
abbrev TT : Type := Nat → Int32
def RSt (m : Mem) (k : Nat) (T : TT) : Prop :=
  (m k 0 = T 0 ∧ m k 8 = T 1 ∧ m k 9 = T 2 ∧ m k 10 = T 3 ∧ m k 11 = T 4 ∧ m k 12 = T 5 ∧ m k 13 = T 6 ∧ m k 14 = T 7 ∧ m k 15 = T 8 ∧ m (k + 9) 1 = T 9 ∧ m k 16 = T 10 ∧ m (k + 5) 1 = T 11 ∧ m (k + 7) 1 = T 12)
  ∧ (∀ i, i < 4 → m (k + 10) i = T (13 + i)) ∧ (∀ i, i < 6 → m (k + 6) i = T (17 + i)) ∧ (∀ i, i < 4 → m (k + 8) i = T (23 + i))
  ∧ (∀ n, n < 16 → m (k + 1) n = T (27 + 20 * n + 4)) ∧ (∀ n, n < 16 → m (k + 2) n = T (27 + 20 * n + 5)) ∧ (∀ n, n < 16 → m (k + 3) n = T (27 + 20 * n + 9)) ∧ (∀ n s, n < 16 → s < 3 → m (k + 4) (3 * n + s) = T (27 + 20 * n + 6 + s))
def RNd (m : Mem) (T : TT) : Prop := ∀ n, n < ix (T 0) → n < 16 →
  m (6 + 2 * n) 0 = T (27 + 20 * n + 0) ∧ m (6 + 2 * n) 1 = T (27 + 20 * n + 1) ∧ m (6 + 2 * n) 2 = T (27 + 20 * n + 2) ∧ m (6 + 2 * n) 3 = T (27 + 20 * n + 3) ∧ m (6 + 2 * n) 4 = T (27 + 20 * n + 10) ∧ m (6 + 2 * n) 5 = T (27 + 20 * n + 11) ∧ ∀ i, i < 8 → nI i < T (27 + 20 * n + 11) → m (7 + 2 * n) i + 32 = T (27 + 20 * n + 12 + i)
/-- what holds of every state -/
def IT (T : TT) : Prop :=
  (1 ≤ T 0 ∧ T 0 ≤ 16) ∧ (0 ≤ T 9 ∧ T 9 ≤ 4) ∧ (0 ≤ T 11 ∧ T 11 ≤ 6) ∧ (0 ≤ T 12 ∧ T 12 ≤ 4) ∧ (T 10 = 0 ∨ T 10 = 1)
  ∧ (T 27 = -10001 ∧ T 28 = 0 ∧ T 29 = 0 ∧ T 30 = 0 ∧ T 37 = 0 ∧ T 38 = 0)
  ∧ (∀ n, n < 16 → T (27 + 20 * n + 1) ≠ 1 → T (27 + 20 * n + 4) = 0 ∧ T (27 + 20 * n + 6) = 0 ∧ T (27 + 20 * n + 7) = 0 ∧ T (27 + 20 * n + 8) = 0)
  ∧ (∀ n, 1 ≤ n → n < 16 → nI n < T 0 → (0 ≤ T (27 + 20 * n) ∧ T (27 + 20 * n) < nI n) ∧ (0 ≤ T (27 + 20 * n + 1) ∧ T (27 + 20 * n + 1) ≤ 3) ∧ (0 ≤ T (27 + 20 * n + 2) ∧ T (27 + 20 * n + 2) ≤ 3) ∧ (T (27 + 20 * n + 3) = 0 ∨ T (27 + 20 * n + 3) = 1) ∧ (1 ≤ T (27 + 20 * n + 10) ∧ T (27 + 20 * n + 10) ≤ T (27 + 20 * n + 11) ∧ T (27 + 20 * n + 11) ≤ 8) ∧ ∀ i, i < 8 → nI i < T (27 + 20 * n + 11) → 97 ≤ T (27 + 20 * n + 12 + i) ∧ T (27 + 20 * n + 12 + i) ≤ 122)
def evOf (c : Int32) : Int32 := if (-c) / 100 = 1 then 32 else if (-c) / 100 = 2 then 16 else if (-c) / 100 = 3 then 8 else 4
/-- a fault comes -/
def tFault (T : TT) (c : Int32) : TT :=
  if T 12 = 4 then upd (upd (upd T 1 (T 1 ||| evOf c)) 26 (-350)) 1 ((T 1 ||| evOf c) ||| 8) else upd (upd (upd T 1 (T 1 ||| evOf c)) (23 + ix (T 12)) c) 12 (T 12 + 1)
def tAnswer (T : TT) (v : Int32) : TT := if T 11 = 6 then tFault T (-430) else upd (upd T (17 + ix (T 11)) v) 11 (T 11 + 1)
def setC (m : Mem) (c : Nat) (f : TT) : Mem := fun k => if k = c then f else m k
theorem up_setC {m : Mem} {c j : Nat} {v : Int32} : up m c j v = setC m c (upd (m c) j v) := by
  funext k i
  by_cases h : k = c
  · subst h; simp [up, setC, upd]
  · simp [up, setC, h]
theorem setC_at {m : Mem} {c : Nat} {f : TT} : setC m c f c = f := by simp [setC]
theorem setC_ne {m : Mem} {c k : Nat} {f : TT} (h : k ≠ c) : setC m c f k = m k := by simp [setC, h]
theorem setC_setC {m : Mem} {c : Nat} {f g : TT} : setC (setC m c f) c g = setC m c g := by
  funext k
  by_cases h : k = c <;> simp [setC, h]
theorem setC_self {m : Mem} {c : Nat} : setC m c (m c) = m := by
  funext k
  by_cases h : k = c <;> simp [setC, h]
theorem m_addFault (m : Mem) (c : Int32) (h : 0 ≤ m 112 12 ∧ m 112 12 ≤ 4) : f_X9_addFault m c = some (setC m 112 (tFault (m 112) c), ()) := by
  have k : ∀ s3 : Int32, f_X9_addFault_44 m c 1 (m 112 (ix 1)) s3 = some (setC m 112 (if m 112 12 = 4 then upd (upd (upd (m 112) 1 (m 112 1 ||| s3)) 26 (-350)) 1 ((m 112 1 ||| s3) ||| 8) else upd (upd (upd (m 112) 1 (m 112 1 ||| s3)) (23 + ix (m 112 12)) c) 12 (m 112 12 + 1)), ()) := by
    intro s3
    obtain ⟨j, hj, e⟩ := rng (b := 4) (by decide) h.1 h.2
    unfold f_X9_addFault_44
    have e1 : (23 : Int32) + nI j = nI (23 + j) := by rw [show (23 : Int32) = nI 23 from rfl, nI_add]
    have e2 : ix (nI j) = j := ix_nI (by omega)
    have e3 : ix (nI (23 + j)) = 23 + j := ix_nI (by omega)
    have e4 : inR (nI (23 + j)) 347 = true := inR_nI (by omega) (by decide)
    have e5 : (23 + j = 12) = False := by simp; omega
    simp only [lm_def, gd_t, up_setC, setC_at, setC_setC, show ix (1 : Int32) = 1 from rfl, show ix (12 : Int32) = 12 from rfl, show ix (26 : Int32) = 26 from rfl, show inR (1 : Int32) 347 = true from rfl, show inR (12 : Int32) 347 = true from rfl, show inR (26 : Int32) 347 = true from rfl]
    have e6 : upd (m 112) 1 (m 112 1 ||| s3) 12 = m 112 12 := by simp [upd]
    rw [e6]
    by_cases h4 : m 112 12 = 4
    · simp only [if_pos h4]
      congr 3
    · simp only [if_neg h4]
      rw [e, e1, e2, e3, gd_of e4]
      congr 3
      funext q
      simp only [upd]
      grind
  unfold f_X9_addFault
  rw [show inR (1 : Int32) 347 = true from rfl, gd_t]
  simp only [k, tFault, evOf]
  grind
