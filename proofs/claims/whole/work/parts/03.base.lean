/-! memory, cells, the world of all cells -/
abbrev Mem : Type := Nat → Nat → Int32
abbrev EnvT : Type := (Nat → Nat) × va_G × (Nat → ClassId) × Nat × (Nat → Nat) × (Nat → Nat)
def eAd (E : EnvT) (q : Nat) : Nat := E.1 q
def eD (E : EnvT) : va_G := E.2.1
def eC (E : EnvT) (k : Nat) : ClassId := E.2.2.1 k
def eB (E : EnvT) : Nat := E.2.2.2.1
def eK (E : EnvT) (i : Nat) : Nat := E.2.2.2.2.1 i
def eV (E : EnvT) (i : Nat) : Nat := E.2.2.2.2.2 i
def eA (E : EnvT) : Nat → Prop := fun q => eB E ≤ q
def tysE (E : EnvT) : List (ClassId × FieldType) := [(eC E 0, .byte), (eC E 1, .int), (eC E 2, .boolean), (eC E 3, .object "BenchOrders$Node"), (eC E 4, .object "BenchOrders$State")]
def up (σ : Mem) (k j : Nat) (v : Int32) : Mem := fun c i => if c = k ∧ i = j then v else σ c i
abbrev ix (x : Int32) : Nat := x.toNatClampNeg
def inR (i : Int32) (n : Nat) : Bool := decide (¬ (i < 0 ∨ n ≤ i.toNatClampNeg))
theorem inR_vp {i : Int32} {n : Nat} (h : inR i n = true) : vp_in i n := by
  have h1 : ¬ (i < 0 ∨ n ≤ i.toNatClampNeg) := of_decide_eq_true h
  exact h1
theorem inR_lt {i : Int32} {n : Nat} (h : inR i n = true) : ix i < n := Nat.not_le.mp fun q => inR_vp h (Or.inr q)
def isB (x : Int32) : Bool := decide (x = 0 ∨ x = 1)
def lm {α : Type} (a : Mem) (k : Mem → Option α) : Option α := k a
def gd {α : Type} (b : Bool) (x : Option α) : Option α := if b = true then x else none
def bm {α β : Type} (o : Option (Mem × β)) (k : Mem → β → Option α) : Option α := match o with
  | some r => k r.1 r.2
  | none => none
def lo32 (x : Int64) : Int32 := Int32.ofBitVec (x.toBitVec.extractLsb' 0 32)
def hi32 (x : Int64) : Int32 := Int32.ofBitVec (x.toBitVec.extractLsb' 32 32)
def j64 (a b : Int32) : Int64 := Int64.ofBitVec (b.toBitVec ++ a.toBitVec)
theorem j64_split (x : Int64) : j64 (lo32 x) (hi32 x) = x := by
  have h : ∀ v : BitVec 64, (v.extractLsb' 32 32 ++ v.extractLsb' 0 32 : BitVec 64) = v := by
    intro v
    apply BitVec.eq_of_getLsbD_eq
    intro i hi
    simp only [BitVec.getLsbD_append, BitVec.getLsbD_extractLsb']
    by_cases h : i < 32
    · simp [h]
    · have e : 32 + (i - 32) = i := by omega
      have h2 : i - 32 < 32 := by omega
      simp [h, e, h2]
  show Int64.ofBitVec ((Int32.ofBitVec (x.toBitVec.extractLsb' 32 32)).toBitVec ++ (Int32.ofBitVec (x.toBitVec.extractLsb' 0 32)).toBitVec) = x
  exact congrArg Int64.ofBitVec (h x.toBitVec)

def kdL : List Nat := [8, 4, 10, 5, 13, 11, 1, 10, 1, 10, 1, 10, 1, 10, 1, 10, 1, 10, 1, 10, 1, 10, 1, 10, 1, 10, 1, 10, 1, 10, 1, 10, 1, 10, 1, 10, 1, 10, 6, 7, 11, 11, 11, 3, 11, 11, 11, 11, 2, 11, 2, 11, 2, 11, 0, 14, 3, 11, 11, 11, 11, 2, 11, 2, 11, 2, 11, 3, 11, 11, 11, 11, 2, 11, 2, 11, 2, 11, 3, 11, 11, 11, 11, 2, 11, 2, 11, 2, 11, 3, 11, 11, 11, 11, 2, 11, 2, 11, 2, 11, 3, 11, 11, 11, 11, 2, 11, 2, 11, 2, 11, 9, 11, 11, 11, 11, 11, 11, 11, 11, 11, 11, 12, 11]
def lnL : List Nat := [0, 0, 100, 0, 16, 16, 0, 8, 0, 8, 0, 8, 0, 8, 0, 8, 0, 8, 0, 8, 0, 8, 0, 8, 0, 8, 0, 8, 0, 8, 0, 8, 0, 8, 0, 8, 0, 8, 0, 0, 6, 6, 6, 0, 16, 16, 16, 48, 0, 6, 0, 4, 0, 4, 0, 5, 0, 16, 16, 16, 48, 0, 6, 0, 4, 0, 4, 0, 16, 16, 16, 48, 0, 6, 0, 4, 0, 4, 0, 16, 16, 16, 48, 0, 6, 0, 4, 0, 4, 0, 16, 16, 16, 48, 0, 6, 0, 4, 0, 4, 0, 16, 16, 16, 48, 0, 6, 0, 4, 0, 4, 0, 347, 347, 1735, 3, 100, 8, 8, 8, 20, 20, 20, 20]
def kd (q : Nat) : Nat := kdL.getD q 99
def ln (q : Nat) : Nat := lnL.getD q 0
def isSt (q : Nat) : Bool := q == 43 || q == 56 || q == 67 || q == 78 || q == 89 || q == 100
theorem kd_lt {q k : Nat} (h : kd q = k) (hk : k < 99) : q < 124 := by
  rcases Nat.lt_or_ge q 124 with h1 | h1
  · exact h1
  · have e : kdL[q]? = none := List.getElem?_eq_none (show kdL.length ≤ q from h1)
    rw [show kd q = kdL.getD q 99 from rfl, List.getD_eq_getElem?_getD, e] at h
    exact absurd h (by show ¬ 99 = k; omega)
theorem isSt_cases {q : Nat} (h : isSt q = true) : q = 43 ∨ q = 56 ∨ q = 67 ∨ q = 78 ∨ q = 89 ∨ q = 100 := by
  simp only [isSt, Bool.or_eq_true, beq_iff_eq] at h
  omega
theorem kst0 {q : Nat} (h : isSt q = true) : kd (q + 0) = 3 := by rcases isSt_cases h with h | h | h | h | h | h <;> subst h <;> rfl
theorem kst1 {q : Nat} (h : isSt q = true) : kd (q + 1) = 11 := by rcases isSt_cases h with h | h | h | h | h | h <;> subst h <;> rfl
theorem lst1 {q : Nat} (h : isSt q = true) : ln (q + 1) = 16 := by rcases isSt_cases h with h | h | h | h | h | h <;> subst h <;> rfl
theorem kst2 {q : Nat} (h : isSt q = true) : kd (q + 2) = 11 := by rcases isSt_cases h with h | h | h | h | h | h <;> subst h <;> rfl
theorem lst2 {q : Nat} (h : isSt q = true) : ln (q + 2) = 16 := by rcases isSt_cases h with h | h | h | h | h | h <;> subst h <;> rfl
theorem kst3 {q : Nat} (h : isSt q = true) : kd (q + 3) = 11 := by rcases isSt_cases h with h | h | h | h | h | h <;> subst h <;> rfl
theorem lst3 {q : Nat} (h : isSt q = true) : ln (q + 3) = 16 := by rcases isSt_cases h with h | h | h | h | h | h <;> subst h <;> rfl
theorem kst4 {q : Nat} (h : isSt q = true) : kd (q + 4) = 11 := by rcases isSt_cases h with h | h | h | h | h | h <;> subst h <;> rfl
theorem lst4 {q : Nat} (h : isSt q = true) : ln (q + 4) = 48 := by rcases isSt_cases h with h | h | h | h | h | h <;> subst h <;> rfl
theorem kst5 {q : Nat} (h : isSt q = true) : kd (q + 5) = 2 := by rcases isSt_cases h with h | h | h | h | h | h <;> subst h <;> rfl
theorem kst6 {q : Nat} (h : isSt q = true) : kd (q + 6) = 11 := by rcases isSt_cases h with h | h | h | h | h | h <;> subst h <;> rfl
theorem lst6 {q : Nat} (h : isSt q = true) : ln (q + 6) = 6 := by rcases isSt_cases h with h | h | h | h | h | h <;> subst h <;> rfl
theorem kst7 {q : Nat} (h : isSt q = true) : kd (q + 7) = 2 := by rcases isSt_cases h with h | h | h | h | h | h <;> subst h <;> rfl
theorem kst8 {q : Nat} (h : isSt q = true) : kd (q + 8) = 11 := by rcases isSt_cases h with h | h | h | h | h | h <;> subst h <;> rfl
theorem lst8 {q : Nat} (h : isSt q = true) : ln (q + 8) = 4 := by rcases isSt_cases h with h | h | h | h | h | h <;> subst h <;> rfl
theorem kst9 {q : Nat} (h : isSt q = true) : kd (q + 9) = 2 := by rcases isSt_cases h with h | h | h | h | h | h <;> subst h <;> rfl
theorem kst10 {q : Nat} (h : isSt q = true) : kd (q + 10) = 11 := by rcases isSt_cases h with h | h | h | h | h | h <;> subst h <;> rfl
theorem lst10 {q : Nat} (h : isSt q = true) : ln (q + 10) = 4 := by rcases isSt_cases h with h | h | h | h | h | h <;> subst h <;> rfl
theorem kst {q : Nat} (h : isSt q = true) : kd q = 3 := kst0 h
theorem krow {q : Nat} (h : kd q = 2) : kd (q + 1) = 11 := by
  have a : ∀ q, q < 124 → kd q = 2 → kd (q + 1) = 11 := by decide
  exact a q (kd_lt h (by decide)) h
theorem knode {q : Nat} (h : kd q = 1) : kd (q + 1) = 10 := by
  have a : ∀ q, q < 124 → kd q = 1 → kd (q + 1) = 10 := by decide
  exact a q (kd_lt h (by decide)) h
theorem lnode {q : Nat} (h : kd q = 1) : ln (q + 1) = 8 := by
  have a : ∀ q, q < 124 → kd q = 1 → ln (q + 1) = 8 := by decide
  exact a q (kd_lt h (by decide)) h
theorem knd {i : Int32} (h : inR i 16 = true) : kd (6 + 2 * ix i) = 1 := by
  have a : ∀ j, j < 16 → kd (6 + 2 * j) = 1 := by decide
  exact a _ (inR_lt h)
def ce (E : EnvT) (q : Nat) (f : Nat → Int32) : va_E := match kd q with
  | 0 => .inr (0, [.ref (eAd E 55), .int (f 1)])
  | 1 => .inr (1, [.int (f 0), .int (f 1), .int (f 2), .int (f 3), .int (f 4), .int (f 5), .ref (eAd E (q + 1))])
  | 2 => .inr (2, [.ref (eAd E (q + 1)), .int (f 1)])
  | 3 => .inr (3, [.int (f 0), .ref (eAd E (q + 1)), .ref (eAd E (q + 2)), .ref (eAd E (q + 3)), .ref (eAd E (q + 4)), .ref (eAd E (q + 5)), .ref (eAd E (q + 7)), .ref (eAd E (q + 9)), .int (f 8), .int (f 9), .int (f 10), .int (f 11), .int (f 12), .int (f 13), .int (f 14), .int (f 15), .int (f 16)])
  | 4 => .inr (4, [.ref (eAd E 2), .int (f 1)])
  | 5 => .inr (5, [.ref (eAd E 4), .ref (eAd E 5), .int (f 2), .int (f 3)])
  | 6 => .inr (6, [.ref (eAd E 39), .int (f 1), .int (f 2), .int (f 3), .int (f 4), .int (f 5), .int (f 6), .int (f 7), .int (f 8)])
  | 7 => .inr (7, [.ref (eAd E 40), .ref (eAd E 41), .ref (eAd E 42), .int (f 3)])
  | 8 => .inr (8, [.ref (eAd E 1), .ref (eAd E 3), .ref (eAd E 38), .ref (eAd E 43), .ref (eAd E 54), .int (f 5), .int (f 6), .int (f 7)])
  | 9 => .inr (9, [.ref (eAd E 112), .ref (eAd E 113), .ref (eAd E 114), .int (f 3), .ref (eAd E 115), .ref (eAd E 116), .int (f 6), .ref (eAd E 117), .ref (eAd E 118), .ref (eAd E 119), .int (f 10), .ref (eAd E 120), .ref (eAd E 121), .ref (eAd E 122), .ref (eAd E 123), .int (f 15), .int (f 16), .int (f 17), .int (f 18), .int (f 19), .int (f 20), .int (f 21), .int (f 22), .long (j64 (f 23) (f 24))])
  | 10 => .inl (eC E 0, (ln q, .inl f))
  | 11 => .inl (eC E 1, (ln q, .inl f))
  | 12 => .inl (eC E 2, (ln q, .inl f))
  | 13 => .inl (eC E 3, (16, .inr (.inr (.inr (.inr (fun j => some (eAd E (6 + 2 * j))))))))
  | _ => .inl (eC E 4, (5, .inr (.inr (.inr (.inr (fun j => some (eAd E (ix (f j)))))))))
theorem ce_0 {E : EnvT} {q : Nat} {f : Nat → Int32} (h : kd q = 0) : ce E q f = .inr (0, [.ref (eAd E 55), .int (f 1)]) := by unfold ce; rw [h]; rfl
theorem ce_1 {E : EnvT} {q : Nat} {f : Nat → Int32} (h : kd q = 1) : ce E q f = .inr (1, [.int (f 0), .int (f 1), .int (f 2), .int (f 3), .int (f 4), .int (f 5), .ref (eAd E (q + 1))]) := by unfold ce; rw [h]; rfl
theorem ce_2 {E : EnvT} {q : Nat} {f : Nat → Int32} (h : kd q = 2) : ce E q f = .inr (2, [.ref (eAd E (q + 1)), .int (f 1)]) := by unfold ce; rw [h]; rfl
theorem ce_3 {E : EnvT} {q : Nat} {f : Nat → Int32} (h : kd q = 3) : ce E q f = .inr (3, [.int (f 0), .ref (eAd E (q + 1)), .ref (eAd E (q + 2)), .ref (eAd E (q + 3)), .ref (eAd E (q + 4)), .ref (eAd E (q + 5)), .ref (eAd E (q + 7)), .ref (eAd E (q + 9)), .int (f 8), .int (f 9), .int (f 10), .int (f 11), .int (f 12), .int (f 13), .int (f 14), .int (f 15), .int (f 16)]) := by unfold ce; rw [h]; rfl
theorem ce_4 {E : EnvT} {q : Nat} {f : Nat → Int32} (h : kd q = 4) : ce E q f = .inr (4, [.ref (eAd E 2), .int (f 1)]) := by unfold ce; rw [h]; rfl
theorem ce_5 {E : EnvT} {q : Nat} {f : Nat → Int32} (h : kd q = 5) : ce E q f = .inr (5, [.ref (eAd E 4), .ref (eAd E 5), .int (f 2), .int (f 3)]) := by unfold ce; rw [h]; rfl
theorem ce_6 {E : EnvT} {q : Nat} {f : Nat → Int32} (h : kd q = 6) : ce E q f = .inr (6, [.ref (eAd E 39), .int (f 1), .int (f 2), .int (f 3), .int (f 4), .int (f 5), .int (f 6), .int (f 7), .int (f 8)]) := by unfold ce; rw [h]; rfl
theorem ce_7 {E : EnvT} {q : Nat} {f : Nat → Int32} (h : kd q = 7) : ce E q f = .inr (7, [.ref (eAd E 40), .ref (eAd E 41), .ref (eAd E 42), .int (f 3)]) := by unfold ce; rw [h]; rfl
theorem ce_8 {E : EnvT} {q : Nat} {f : Nat → Int32} (h : kd q = 8) : ce E q f = .inr (8, [.ref (eAd E 1), .ref (eAd E 3), .ref (eAd E 38), .ref (eAd E 43), .ref (eAd E 54), .int (f 5), .int (f 6), .int (f 7)]) := by unfold ce; rw [h]; rfl
theorem ce_9 {E : EnvT} {q : Nat} {f : Nat → Int32} (h : kd q = 9) : ce E q f = .inr (9, [.ref (eAd E 112), .ref (eAd E 113), .ref (eAd E 114), .int (f 3), .ref (eAd E 115), .ref (eAd E 116), .int (f 6), .ref (eAd E 117), .ref (eAd E 118), .ref (eAd E 119), .int (f 10), .ref (eAd E 120), .ref (eAd E 121), .ref (eAd E 122), .ref (eAd E 123), .int (f 15), .int (f 16), .int (f 17), .int (f 18), .int (f 19), .int (f 20), .int (f 21), .int (f 22), .long (j64 (f 23) (f 24))]) := by unfold ce; rw [h]; rfl
theorem ce_10 {E : EnvT} {q : Nat} {f : Nat → Int32} (h : kd q = 10) : ce E q f = .inl (eC E 0, (ln q, .inl f)) := by unfold ce; rw [h]; rfl
theorem ce_11 {E : EnvT} {q : Nat} {f : Nat → Int32} (h : kd q = 11) : ce E q f = .inl (eC E 1, (ln q, .inl f)) := by unfold ce; rw [h]; rfl
theorem ce_12 {E : EnvT} {q : Nat} {f : Nat → Int32} (h : kd q = 12) : ce E q f = .inl (eC E 2, (ln q, .inl f)) := by unfold ce; rw [h]; rfl
theorem ce_13 {E : EnvT} {q : Nat} {f : Nat → Int32} (h : kd q = 13) : ce E q f = .inl (eC E 3, (16, .inr (.inr (.inr (.inr (fun j => some (eAd E (6 + 2 * j)))))))) := by unfold ce; rw [h]; rfl
theorem ce_14 {E : EnvT} {q : Nat} {f : Nat → Int32} (h : kd q = 14) : ce E q f = .inl (eC E 4, (5, .inr (.inr (.inr (.inr (fun j => some (eAd E (ix (f j))))))))) := by unfold ce; rw [h]; rfl
theorem ce_obj {E : EnvT} {q ci : Nat} {f : Nat → Int32} (h : kd q = ci) (hc : ci < 10) : ∃ fs, ce E q f = .inr (ci, fs) := by
  subst h
  generalize hk : kd q = k at hc
  match k, hc with
  | 0, _ => exact ⟨_, ce_0 hk⟩
  | 1, _ => exact ⟨_, ce_1 hk⟩
  | 2, _ => exact ⟨_, ce_2 hk⟩
  | 3, _ => exact ⟨_, ce_3 hk⟩
  | 4, _ => exact ⟨_, ce_4 hk⟩
  | 5, _ => exact ⟨_, ce_5 hk⟩
  | 6, _ => exact ⟨_, ce_6 hk⟩
  | 7, _ => exact ⟨_, ce_7 hk⟩
  | 8, _ => exact ⟨_, ce_8 hk⟩
  | 9, _ => exact ⟨_, ce_9 hk⟩
  | k + 10, hc => omega
def Wd (E : EnvT) (σ : Mem) : va_W := (List.range 124).map (fun k => (eAd E k, ce E k (σ k)))
theorem Wd_get {E : EnvT} {σ : Mem} {k : Nat} (h : k < 124) : (Wd E σ)[k]? = some (eAd E k, ce E k (σ k)) := by
  unfold Wd
  rw [List.getElem?_map, List.getElem?_range h]
  rfl
theorem Wd_none {E : EnvT} {σ : Mem} {k : Nat} (h : 124 ≤ k) : (Wd E σ)[k]? = none := by
  apply List.getElem?_eq_none
  unfold Wd
  rw [List.length_map, List.length_range]
  exact h
theorem Wd_set {E : EnvT} {σ σ' : Mem} {k : Nat} {x : va_E} (h : k < 124) (hx : ce E k (σ' k) = x) (ho : ∀ j, j ≠ k → σ' j = σ j) : (Wd E σ).set k (eAd E k, x) = Wd E σ' := by
  apply List.ext_getElem?
  intro j
  by_cases hj : j = k
  · subst hj
    rw [List.getElem?_set_self (by unfold Wd; rw [List.length_map, List.length_range]; exact h), Wd_get h, hx]
  · rw [List.getElem?_set_ne (Ne.symm hj)]
    by_cases h2 : j < 124
    · rw [Wd_get h2, Wd_get h2, ho j hj]
    · rw [Wd_none (by omega), Wd_none (by omega)]
theorem up_ne {σ : Mem} {k j : Nat} {v : Int32} {c : Nat} (h : c ≠ k) : up σ k j v c = σ c := by
  funext i
  simp [up, h]
theorem up_at {σ : Mem} {k j : Nat} {v : Int32} : up σ k j v k = upd (σ k) j v := by
  funext i
  simp [up, upd]
def EOk (E : EnvT) : Prop := (∀ i j : Nat, i < 124 → j < 124 → eAd E i = eAd E j → i = j) ∧ ∀ i : Nat, i < 124 → eB E ≤ eAd E i
theorem Wd_D {E : EnvT} (h : EOk E) (σ : Mem) : va_D (eA E) (Wd E σ) := by
  have key : ∀ (k : Nat) (q : Nat × va_E), (Wd E σ)[k]? = some q → k < 124 ∧ q.1 = eAd E k := by
    intro k q hq
    by_cases hk : k < 124
    · rw [Wd_get hk] at hq
      cases hq
      exact ⟨hk, rfl⟩
    · rw [Wd_none (by omega)] at hq
      cases hq
  refine ⟨fun i j p q hi hj e => ?_, fun k q hq => ?_⟩
  · obtain ⟨a1, a2⟩ := key i p hi
    obtain ⟨b1, b2⟩ := key j q hj
    exact h.1 i j a1 b1 (by rw [← a2, ← b2]; exact e)
  · obtain ⟨a1, a2⟩ := key k q hq
    show eB E ≤ q.1
    rw [a2]
    exact h.2 k a1

set_option maxRecDepth 20000 in
theorem inX0 : ∀ w ∈ u_ws RX0 TX0 2, w ∈ tb := by decide +kernel
set_option maxRecDepth 20000 in
theorem inX1 : ∀ w ∈ u_ws RX1 TX1 7, w ∈ tb := by decide +kernel
set_option maxRecDepth 20000 in
theorem inX2 : ∀ w ∈ u_ws RX2 TX2 2, w ∈ tb := by decide +kernel
set_option maxRecDepth 20000 in
theorem inX3 : ∀ w ∈ u_ws RX3 TX3 17, w ∈ tb := by decide +kernel
set_option maxRecDepth 20000 in
theorem inX4 : ∀ w ∈ u_ws RX4 TX4 2, w ∈ tb := by decide +kernel
set_option maxRecDepth 20000 in
theorem inX5 : ∀ w ∈ u_ws RX5 TX5 4, w ∈ tb := by decide +kernel
set_option maxRecDepth 20000 in
theorem inX6 : ∀ w ∈ u_ws RX6 TX6 9, w ∈ tb := by decide +kernel
set_option maxRecDepth 20000 in
theorem inX7 : ∀ w ∈ u_ws RX7 TX7 4, w ∈ tb := by decide +kernel
set_option maxRecDepth 20000 in
theorem inX8 : ∀ w ∈ u_ws RX8 TX8 8, w ∈ tb := by decide +kernel
set_option maxRecDepth 20000 in
theorem inX9 : ∀ w ∈ u_ws RX9 TX9 24, w ∈ tb := by decide +kernel

/-! what every method may take as given: the classes, the nest's links, the texts -/
def strN : List Nat := [3, 3, 3, 3, 3, 3, 3, 2, 3]
def strB : List (List Int32) := [[67, 76, 83], [69, 83, 69], [83, 82, 69], [69, 83, 82], [83, 84, 66], [79, 80, 67], [82, 83, 84], [79, 78], [79, 70, 70]]
def skI : List Nat := [75, 81, 83, 85, 87, 89, 91, 122, 124]
def skT : List String := ["CLS", "ESE", "SRE", "ESR", "STB", "OPC", "RST", "ON", "OFF"]
def EK (E : EnvT) (U : State) : Prop := va_K (eD E) vwCl (tysE E) U ∧ (∀ w ∈ lw_tbl, isNest w = true → va_Nw w U) ∧ EOk E ∧ vk_S 9 strN strB (eK E) (eV E) (eA E) U U.heap ∧ (∀ i : Nat, i < 9 → vk_R "BenchOrders$Unit" (skI.getD i 0) (skT.getD i "") (eK E i) U) ∧ va_Z "java/lang/String" "COMPACT_STRINGS" "Z" (.int 1) (eA E) U U.heap ∧ va_Zq "jdk/internal/util/Preconditions" "SIOOBE_FORMATTER" "Ljava/util/function/BiFunction;" (eA E) U U.heap
theorem EK.move {E : EnvT} {s U : State} {H : Heap} {locs : List Loc} (h : EK E s) (hS : va_S (eA E) s.heap H locs) (hU : U.heap = H) (hW : s.WarmedH U.vm) : EK E U := by
  obtain ⟨h1, h2, h3, h4, h5, h6, h7⟩ := h
  refine ⟨va_K.moved hW.alike h1, fun w hw hn => ?_, h3, ?_, fun i hi => (h5 i hi).warm hW, ?_, ?_⟩
  · have h := h2 w hw hn
    cases w <;> first | exact va_Nw.warmM hW h | (simp [isNest] at hn)
  · rw [hU]; exact (h4.moved hW.alike).kept hS.2.1
  · rw [hU]; exact (h6.moved hW.alike).kept hS.2.1
  · rw [hU]; exact (h7.moved hW.alike).kept hS.2.1
theorem EK.same {E : EnvT} {u U : State} (hv : U.vm = u.vm) (hh : U.heap = u.heap) (h : EK E u) : EK E U := by
  obtain ⟨h1, h2, h3, h4, h5, h6, h7⟩ := h
  have ha : u.vm.Alike U.vm := by rw [hv]; exact Vm.Alike.refl _
  refine ⟨va_K.moved ha h1, fun w hw hn => ?_, h3, ?_, fun i hi => (h5 i hi).same hv, ?_, ?_⟩
  · have h := h2 w hw hn
    cases w <;> first | exact va_Nw.same rfl hv.symm h | (simp [isNest] at hn)
  · rw [hh]; exact h4.moved ha
  · rw [hh]; exact h6.moved ha
  · rw [hh]; exact h7.moved ha
def Pre (E : EnvT) (σ : Mem) (U : State) : Prop := EK E U ∧ va_P (eD E) vwCl (Wd E σ) U.heap
def Qm (E : EnvT) (σ' : Mem) (v : Option Value) : Array Value → State → Outcome → State → Prop := fun _ st oc t => oc = .returned v ∧ va_P (eD E) vwCl (Wd E σ') t.heap ∧ va_F (eA E) st t
abbrev ZT : Type := Mem → Option Value → State → Array Value → List Frame → State → Prop
def Zm (E : EnvT) : ZT := fun σ' v s args below => MQ below (Qm E σ' v) args s 0 0 (eA E)
def Fx (E : EnvT) (own : String) (cc : ByteArray) (nL : Nat) (rt : Option FieldType) (p : Program) (s : State) (m : MethodId) (args : Array Value) (meth : Method) (c : Code) : Prop :=
  p.tables.exec = Jvm.exec ∧ c.code = cc ∧ c.maxLocals = nL ∧ meth.sig.returnType = rt ∧ meth.locks = false ∧ s.vm.findClass own = some m.cls ∧ (∀ w ∈ tb, w.before args s = true) ∧ EK E s
/-- from any heap that holds σ and any locals that hold lv the machine, at pc with the stack st, comes to its end with what res says -/
def V (l : Launch) (E : EnvT) (own : String) (cc : ByteArray) (nL : Nat) (rt : Option FieldType) (R : Room) (cells slots : Nat) (Z : ZT) {α : Type} (rv : α → Option Value) (res : Option (Mem × α)) (σ : Mem) (pc : Nat) (lv : List (Nat × Value)) (st : List Value) : Prop :=
  ∀ (σ' : Mem) (r : α), res = some (σ', r) → ∀ (p : Program) (e : Env) (s : State) (m : MethodId) (args : Array Value) (below : List Frame) (meth : Method) (c : Code) (H : Heap) (locs : List Loc) (ls : Array Slot), Fx E own cc nL rt p s m args meth c → va_P (eD E) vwCl (Wd E σ) H → va_S (eA E) s.heap H locs → lv_has ls nL lv → W p l e R s m args below meth c H locs cells slots (Z σ' (rv r) s args below) (F0 m pc ls st)
def CT (l : Launch) (E : EnvT) (y : MethodName) (cc : ByteArray) (nL : Nat) (rt : Option FieldType) (R : Room) {α : Type} (rv : α → Option Value) (res : Option (Mem × α)) (av : List Value) (σ : Mem) : Prop :=
  ∀ (σ' : Mem) (r : α), res = some (σ', r) → Met l y (.code y cc nL rt :: tb) R (va_Pc av (Pre E σ)) (Qm E σ' (rv r)) 0 0 (eA E)
abbrev rvI (x : Int32) : Option Value := some (.int x)
abbrev rvL (x : Int64) : Option Value := some (.long x)
abbrev rvV (_ : Unit) : Option Value := none
theorem CT.ofV {l : Launch} {E : EnvT} {y : MethodName} {own : String} {cc : ByteArray} {nL : Nat} {rt : Option FieldType} {R : Room} {α : Type} {rv : α → Option Value} {res : Option (Mem × α)} {av : List Value} {σ : Mem} (hy : plainName y.cls = true) (ho : y.cls = own) (hlen : (lg_sl av).length ≤ nL) (h : V l E own cc nL rt R 0 0 (Zm E) rv res σ 0 (lv_args 0 av) []) : CT l E y cc nL rt R rv res av σ := by
  intro σ' r hr
  refine Met.ofW (cc := cc) (maxL := nL) (ret := rt) hy rfl ?_
  intro p e s m args below meth c s₁ B hml hv
  obtain ⟨rfl, hE, hP⟩ := hv
  have hts := atoms_spec (ws := .code y cc nL rt :: tb) B.pre
  rw [lg_entry_eq]
  exact h σ' r hr p e s m _ below meth c s.heap [] _ ⟨B.exec, B.bytes, hml, B.returns, B.notSynchronized, by rw [← ho]; exact findClass_of_methodNamed B.named, fun w hw => hts w (List.mem_cons_of_mem _ hw), hE⟩ hP va_S.rf (lv_entry av hlen)
theorem Pre_blind {E : EnvT} {σ : Mem} {av : List Value} : FrameBlind (va_Pc av (Pre E σ)) := fun a U g mk q => ⟨q.1, EK.same (u := U) rfl rfl q.2.1, q.2.2⟩
theorem good_code {y : MethodName} {cc : ByteArray} {n : Nat} {rt : Option FieldType} (h : Cond.code y cc n rt ∈ tb) : GoodIn tb (.code y cc n rt :: tb) := fun w hw => (List.mem_cons.mp hw).elim (fun e => by rw [e]; exact tb_good _ h) (tb_good w)
/-- what a caller needs of a callee -/
def CalV (y : MethodName) (cc : ByteArray) (nL : Nat) (rt : Option FieldType) (C : String) (n : Nat) : Prop := Cond.instanceMethod y ∈ tb ∧ Cond.selects C y y ∈ tb ∧ Cond.initialized y.cls ∈ tb ∧ Cond.code y cc nL rt ∈ tb ∧ (y.cls ≠ "java/lang/invoke/MethodHandle" ∧ y.cls ≠ "java/lang/invoke/VarHandle" ∧ (parseMethodDescriptor y.desc).map (fun d => d.parameters.length) = some n)
def CalS (y : MethodName) (cc : ByteArray) (nL : Nat) (rt : Option FieldType) (n : Nat) : Prop := Cond.static y ∈ tb ∧ Cond.initialized y.cls ∈ tb ∧ Cond.code y cc nL rt ∈ tb ∧ (y.cls ≠ "java/lang/invoke/MethodHandle" ∧ y.cls ≠ "java/lang/invoke/VarHandle" ∧ (parseMethodDescriptor y.desc).map (fun d => d.parameters.length) = some n)
section Rows
variable {l : Launch} {E : EnvT} {own : String} {cc : ByteArray} {nL : Nat} {rt : Option FieldType} {R : Room} {cells slots : Nat} {Z : ZT} {α : Type} {rv : α → Option Value} {res : Option (Mem × α)} {σ : Mem} {pc : Nat} {lv : List (Nat × Value)} {st : List Value}
theorem v_none : V l E own cc nL rt R cells slots Z rv (none : Option (Mem × α)) σ pc lv st := by
  intro σ' r hr
  cases hr
theorem v_gd {b : Bool} (k : b = true → V l E own cc nL rt R cells slots Z rv res σ pc lv st) : V l E own cc nL rt R cells slots Z rv (gd b res) σ pc lv st := by
  intro σ' r hr
  cases b with
  | true => exact k rfl σ' r hr
  | false => cases hr
theorem v_sub {lv' : List (Nat × Value)} (ks : List Nat) (h : lv_pick lv ks = lv') (k : V l E own cc nL rt R cells slots Z rv res σ pc lv' st) : V l E own cc nL rt R cells slots Z rv res σ pc lv st := by
  intro σ' r hr p e s m args below meth c H locs ls F hP hS hl
  exact k σ' r hr p e s m args below meth c H locs ls F hP hS (lv_sub hl ks h)
theorem v_get {q ci k : Nat} {fs : List Value} {v : Value} {C : String} {T : u_T} {NN index : Nat} (hq : q < 124) (hce : ce E q (σ q) = .inr (ci, fs)) (hc : vwCl[ci]? = some (C, T, NN)) (hk : k < NN) (hin : ∀ w ∈ u_ws C T NN, w ∈ tb) (hlink : Cond.fieldLink own index (T k).1 (T k).2.1 (T k).2.2.1 ∈ tb) (hv : fs[k]? = some v) (d : decode cc pc = .ok (.getfield index, 3)) (kk : V l E own cc nL rt R cells slots Z rv res σ (pc + 3) lv (v :: st)) : V l E own cc nL rt R cells slots Z rv res σ pc lv (.ref (eAd E q) :: st) := by
  intro σ' r hr p e s m args below meth c H locs ls F hP hS hl
  have K := kk σ' r hr p e s m args below meth c H locs ls F hP hS hl
  obtain ⟨hx, hb, -, -, -, hown, hts, hE⟩ := F
  exact va_get (D := eD E) (ci := ci) (C := C) (T := T) (N := NN) hx hb hts hin hown hE.1 hP q (by rw [Wd_get hq, hce]) hc k hk (hts _ hlink) (fun _ h => h) hv d K
theorem v_put {q ci k : Nat} {fs : List Value} {x : Value} {σ1 : Mem} {C : String} {T : u_T} {NN index : Nat} {ty : FieldType} {body : Mem → Option (Mem × α)} (ty0 : Nat → FieldType) (hty : ∀ k, k < NN → parseFieldDescriptor (T k).2.2.1 = some (ty0 k)) (hnm : ∀ a, a < NN → ∀ b, b < NN → a ≠ b → (T a).2.1 ≠ (T b).2.1) (hq : q < 124) (hce : ce E q (σ q) = .inr (ci, fs)) (hc : vwCl[ci]? = some (C, T, NN)) (hk : k < NN) (hin : ∀ w ∈ u_ws C T NN, w ∈ tb) (hlink : Cond.fieldLink own index (T k).1 (T k).2.1 (T k).2.2.1 ∈ tb) (hfin : (T k).2.2.2 = false) (hd : parseFieldDescriptor (T k).2.2.1 = some ty) (hn : narrow ty x = x) (hfit : fits ty x = true) (hl0 : k < fs.length) (h1 : ce E q (σ1 q) = .inr (ci, fs.set k x)) (h2 : ∀ j, j ≠ q → σ1 j = σ j) (d : decode cc pc = .ok (.putfield index, 3)) (kk : ∀ σ2 : Mem, V l E own cc nL rt R cells slots Z rv (body σ2) σ2 (pc + 3) lv st) : V l E own cc nL rt R cells slots Z rv (lm σ1 body) σ pc lv (x :: .ref (eAd E q) :: st) := by
  intro σ' r hr p e s m args below meth c H locs ls F hP hS hl
  have K := fun H1 locs1 a b => kk σ1 σ' r hr p e s m args below meth c H1 locs1 ls F a b hl
  obtain ⟨hx, hb, -, -, -, hown, hts, hE⟩ := F
  refine va_put (D := eD E) (ci := ci) (C := C) (T := T) (N := NN) hx hb hts hin ty0 hty hnm hown hE.1 hP (Wd_D hE.2.2.1 σ) hS q (by rw [Wd_get hq, hce]) hc k hk (hts _ hlink) (fun _ h => h) hfin hd hn hfit hl0 d (fun H1 locs1 hP1 _ hS1 => K H1 locs1 ?_ hS1)
  rw [Wd_set hq h1 h2] at hP1
  exact hP1
theorem v_iald {q n : Nat} {i : Int32} (h : kd q = 11) (hn : ln q = n) (hi : inR i n = true) (d : decode cc pc = .ok (.iaload, 1)) (kk : V l E own cc nL rt R cells slots Z rv res σ (pc + 1) lv (.int (σ q (ix i)) :: st)) : V l E own cc nL rt R cells slots Z rv res σ pc lv (.int i :: .ref (eAd E q) :: st) := by
  intro σ' r hr p e s m args below meth c H locs ls F hP hS hl
  have K := kk σ' r hr p e s m args below meth c H locs ls F hP hS hl
  obtain ⟨hx, hb, -, -, -, hown, hts, hE⟩ := F
  exact va_iald hx hb hE.1 hP q 1 (by rw [Wd_get (kd_lt h (by decide)), ce_11 h]) rfl (by rw [hn]; exact inR_vp hi) d K
theorem v_bald {q n : Nat} {i : Int32} (h : kd q = 10) (hn : ln q = n) (hi : inR i n = true) (d : decode cc pc = .ok (.baload, 1)) (kk : V l E own cc nL rt R cells slots Z rv res σ (pc + 1) lv (.int (σ q (ix i)) :: st)) : V l E own cc nL rt R cells slots Z rv res σ pc lv (.int i :: .ref (eAd E q) :: st) := by
  intro σ' r hr p e s m args below meth c H locs ls F hP hS hl
  have K := kk σ' r hr p e s m args below meth c H locs ls F hP hS hl
  obtain ⟨hx, hb, -, -, -, hown, hts, hE⟩ := F
  exact va_bald hx hb hE.1 hP q 0 (by rw [Wd_get (kd_lt h (by decide)), ce_10 h]) rfl (by rw [hn]; exact inR_vp hi) d K
theorem v_zald {q n : Nat} {i : Int32} (h : kd q = 12) (hn : ln q = n) (hi : inR i n = true) (d : decode cc pc = .ok (.baload, 1)) (kk : V l E own cc nL rt R cells slots Z rv res σ (pc + 1) lv (.int (σ q (ix i)) :: st)) : V l E own cc nL rt R cells slots Z rv res σ pc lv (.int i :: .ref (eAd E q) :: st) := by
  intro σ' r hr p e s m args below meth c H locs ls F hP hS hl
  have K := kk σ' r hr p e s m args below meth c H locs ls F hP hS hl
  obtain ⟨hx, hb, -, -, -, hown, hts, hE⟩ := F
  exact va_zald hx hb hE.1 hP q 2 (by rw [Wd_get (kd_lt h (by decide)), ce_12 h]) rfl (by rw [hn]; exact inR_vp hi) d K
theorem v_iast {q n : Nat} {i x : Int32} {body : Mem → Option (Mem × α)} (h : kd q = 11) (hn : ln q = n) (hi : inR i n = true) (d : decode cc pc = .ok (.iastore, 1)) (kk : ∀ σ2 : Mem, V l E own cc nL rt R cells slots Z rv (body σ2) σ2 (pc + 1) lv st) : V l E own cc nL rt R cells slots Z rv (lm (up σ q (ix i) x) body) σ pc lv (.int x :: .int i :: .ref (eAd E q) :: st) := by
  intro σ' r hr p e s m args below meth c H locs ls F hP hS hl
  have K := fun H1 locs1 a b => kk (up σ q (ix i) x) σ' r hr p e s m args below meth c H1 locs1 ls F a b hl
  obtain ⟨hx, hb, -, -, -, hown, hts, hE⟩ := F
  have hq := kd_lt h (by decide)
  refine va_iast hx hb hE.1 hP (Wd_D hE.2.2.1 σ) hS q 1 (by rw [Wd_get hq, ce_11 h]) rfl (by rw [hn]; exact inR_vp hi) d (fun H1 locs1 hP1 _ hS1 => K H1 locs1 ?_ hS1)
  rw [Wd_set (σ' := up σ q (ix i) x) hq (by rw [ce_11 h, up_at]) (fun j hj => up_ne hj)] at hP1
  exact hP1
theorem v_bast {q n : Nat} {i x : Int32} {body : Mem → Option (Mem × α)} (h : kd q = 10) (hn : ln q = n) (hi : inR i n = true) (d : decode cc pc = .ok (.bastore, 1)) (kk : ∀ σ2 : Mem, V l E own cc nL rt R cells slots Z rv (body σ2) σ2 (pc + 1) lv st) : V l E own cc nL rt R cells slots Z rv (lm (up σ q (ix i) (vp_nar .byte x)) body) σ pc lv (.int x :: .int i :: .ref (eAd E q) :: st) := by
  intro σ' r hr p e s m args below meth c H locs ls F hP hS hl
  have K := fun H1 locs1 a b => kk (up σ q (ix i) (vp_nar .byte x)) σ' r hr p e s m args below meth c H1 locs1 ls F a b hl
  obtain ⟨hx, hb, -, -, -, hown, hts, hE⟩ := F
  have hq := kd_lt h (by decide)
  refine va_bast hx hb hE.1 hP (Wd_D hE.2.2.1 σ) hS q 0 (by rw [Wd_get hq, ce_10 h]) rfl (by rw [hn]; exact inR_vp hi) d (fun H1 locs1 hP1 _ hS1 => K H1 locs1 ?_ hS1)
  rw [Wd_set (σ' := up σ q (ix i) (vp_nar .byte x)) hq (by rw [ce_10 h, up_at]) (fun j hj => up_ne hj)] at hP1
  exact hP1
theorem v_zast {q n : Nat} {i x : Int32} {body : Mem → Option (Mem × α)} (h : kd q = 12) (hn : ln q = n) (hi : inR i n = true) (d : decode cc pc = .ok (.bastore, 1)) (kk : ∀ σ2 : Mem, V l E own cc nL rt R cells slots Z rv (body σ2) σ2 (pc + 1) lv st) : V l E own cc nL rt R cells slots Z rv (lm (up σ q (ix i) (vp_nar .boolean x)) body) σ pc lv (.int x :: .int i :: .ref (eAd E q) :: st) := by
  intro σ' r hr p e s m args below meth c H locs ls F hP hS hl
  have K := fun H1 locs1 a b => kk (up σ q (ix i) (vp_nar .boolean x)) σ' r hr p e s m args below meth c H1 locs1 ls F a b hl
  obtain ⟨hx, hb, -, -, -, hown, hts, hE⟩ := F
  have hq := kd_lt h (by decide)
  refine va_zast hx hb hE.1 hP (Wd_D hE.2.2.1 σ) hS q 2 (by rw [Wd_get hq, ce_12 h]) rfl (by rw [hn]; exact inR_vp hi) d (fun H1 locs1 hP1 _ hS1 => K H1 locs1 ?_ hS1)
  rw [Wd_set (σ' := up σ q (ix i) (vp_nar .boolean x)) hq (by rw [ce_12 h, up_at]) (fun j hj => up_ne hj)] at hP1
  exact hP1
theorem v_alenI {q : Nat} {v : Int32} (h : kd q = 11) (hn : Int32.ofNat (ln q) = v) (d : decode cc pc = .ok (.arraylength, 1)) (kk : V l E own cc nL rt R cells slots Z rv res σ (pc + 1) lv (.int v :: st)) : V l E own cc nL rt R cells slots Z rv res σ pc lv (.ref (eAd E q) :: st) := by
  intro σ' r hr p e s m args below meth c H locs ls F hP hS hl
  have K := kk σ' r hr p e s m args below meth c H locs ls F hP hS hl
  obtain ⟨hx, hb, -, -, -, hown, hts, hE⟩ := F
  exact va_alen hx hb hE.1 hP q 1 (by rw [Wd_get (kd_lt h (by decide)), ce_11 h]) (ty := .int) rfl hn d K
theorem v_aldN {i : Int32} (hi : inR i 16 = true) (d : decode cc pc = .ok (.aaload, 1)) (kk : V l E own cc nL rt R cells slots Z rv res σ (pc + 1) lv (.ref (eAd E (6 + 2 * ix i)) :: st)) : V l E own cc nL rt R cells slots Z rv res σ pc lv (.int i :: .ref (eAd E 4) :: st) := by
  intro σ' r hr p e s m args below meth c H locs ls F hP hS hl
  have K := kk σ' r hr p e s m args below meth c H locs ls F hP hS hl
  obtain ⟨hx, hb, -, -, -, hown, hts, hE⟩ := F
  exact va_aldq (C := "BenchOrders$Node") (f := fun j => some (eAd E (6 + 2 * j))) hx hb hE.1 hP 4 3 (by rw [Wd_get (show 4 < 124 by decide), ce_13 (show kd 4 = 13 from rfl)]) rfl (inR_vp hi) d K
theorem v_aldS {i : Int32} (hi : inR i 5 = true) (d : decode cc pc = .ok (.aaload, 1)) (kk : V l E own cc nL rt R cells slots Z rv res σ (pc + 1) lv (.ref (eAd E (ix (σ 55 (ix i)))) :: st)) : V l E own cc nL rt R cells slots Z rv res σ pc lv (.int i :: .ref (eAd E 55) :: st) := by
  intro σ' r hr p e s m args below meth c H locs ls F hP hS hl
  have K := kk σ' r hr p e s m args below meth c H locs ls F hP hS hl
  obtain ⟨hx, hb, -, -, -, hown, hts, hE⟩ := F
  exact va_aldq (C := "BenchOrders$State") (f := fun j => some (eAd E (ix (σ 55 j)))) hx hb hE.1 hP 55 4 (by rw [Wd_get (show 55 < 124 by decide), ce_14 (show kd 55 = 14 from rfl)]) rfl (inR_vp hi) d K
theorem v_astS {i : Int32} {q : Nat} {body : Mem → Option (Mem × α)} (hs : isSt q = true) (hi : inR i 5 = true) (d : decode cc pc = .ok (.aastore, 1)) (kk : ∀ σ2 : Mem, V l E own cc nL rt R cells slots Z rv (body σ2) σ2 (pc + 1) lv st) : V l E own cc nL rt R cells slots Z rv (lm (up σ 55 (ix i) (nI q)) body) σ pc lv (.ref (eAd E q) :: .int i :: .ref (eAd E 55) :: st) := by
  intro σ' r hr p e s m args below meth c H locs ls F hP hS hl
  have K := fun H1 locs1 a b => kk (up σ 55 (ix i) (nI q)) σ' r hr p e s m args below meth c H1 locs1 ls F a b hl
  obtain ⟨hx, hb, -, -, -, hown, hts, hE⟩ := F
  have hq : q < 124 := kd_lt (kst hs) (by decide)
  have e1 : (nI q).toNatClampNeg = q := nI_clamp (by omega)
  refine va_astq hx hb hE.1 hP (Wd_D hE.2.2.1 σ) hS 55 4 q 3 (r := (RX3, TX3, 17)) (by rw [Wd_get (show 55 < 124 by decide), ce_14 (show kd 55 = 14 from rfl)]) rfl (by rw [Wd_get hq, ce_3 (kst hs)]) rfl (inR_vp hi) d (fun H1 locs1 hP1 _ hS1 => K H1 locs1 ?_ hS1)
  rw [Wd_set (σ' := up σ 55 (ix i) (nI q)) (show 55 < 124 by decide) (x := _) ?_ (fun j hj => up_ne hj)] at hP1
  · exact hP1
  · rw [ce_14 (show kd 55 = 14 from rfl), up_at]
    congr 7
    funext j
    by_cases hj : j = ix i
    · subst hj
      simp [upd, va_up, e1]
    · simp [upd, va_up, hj]
theorem call_go {p : Program} {e : Env} {s : State} {m : MethodId} {args : Array Value} {below : List Frame} {meth : Method} {c : Code} {H : Heap} {locs : List Loc} {ls : Array Slot} {st0 rest : List Value} {σ1 : Mem} {v : Option Value} {a : Array Value} {Q : State → Prop} (hr : va_Run p l e R s m args below meth c H locs cells slots 0 0 (F0 m pc ls st0) rest (Qm E σ1 v a) (eA E)) (hS : va_S (eA E) s.heap H locs) (kk : ∀ (H1 : Heap) (locs1 : List Loc), va_P (eD E) vwCl (Wd E σ1) H1 → va_S (eA E) s.heap H1 locs1 → W p l e R s m args below meth c H1 locs1 cells slots Q (F0 m (pc + 3) ls (v.toList ++ rest))) : W p l e R s m args below meth c H locs cells slots Q (F0 m pc ls st0) := by
  intro T hT X
  obtain ⟨v', st₀, t, T', L, h0, X', hL, e1, e2, ⟨hv, hp, hz, hk⟩, st⟩ := hr T hT X
  cases hv
  rw [h0] at hz hk
  obtain ⟨t2, a1, b1⟩ := kk T'.heap (locs ++ L) (by rw [e1]; exact hp)
    ⟨Nat.le_trans hS.1 (by rw [e1]; exact hz), fun q h1 h2 => by rw [e1, hk q (Nat.lt_of_lt_of_le h1 hS.1) h2]; exact hS.2.1 q h1 h2, fun q hq => by
      rcases List.mem_append.mp hq with h | h
      · exact hS.2.2 q h
      · exact hL q h⟩ T' rfl X'
  exact ⟨t2, st t2 a1, b1⟩
theorem v_callV {β : Type} {rv1 : β → Option Value} {res1 : Option (Mem × β)} {body : Mem → β → Option (Mem × α)} {y : MethodName} {bytes : ByteArray} {maxL index n q ci : Nat} {ret : Option FieldType} {rm : Room} {C : String} {T : u_T} {NN : Nat} {As rest st0 : List Value}
    (hM : CT l E y bytes maxL ret rm rv1 res1 (.ref (eAd E q) :: As) σ) (hC : CalV y bytes maxL ret C n) (hq : kd q = ci) (hci : ci < 10) (hc : vwCl[ci]? = some (C, T, NN)) (hl : Cond.methodLink own index y ∈ tb) (hrm : rm.cells = 0 ∧ rm.slots = 0) (hR : rm.frames + 1 ≤ R.frames ∧ 8 + (maxL + 11) + rm.locals ≤ R.locals) (hcs : cells ≤ R.cells ∧ slots ≤ R.slots) (hn : As.length = n) (hst : st0 = As.reverse ++ .ref (eAd E q) :: rest) (hw : (rest.map fun v => v.category).sum ≤ 8) (d : decode cc pc = .ok (.invokevirtual index, 3))
    (kk : ∀ (σ1 : Mem) (r1 : β), V l E own cc nL rt R cells slots Z rv (body σ1 r1) σ1 (pc + 3) lv ((rv1 r1).toList ++ rest)) : V l E own cc nL rt R cells slots Z rv (bm res1 body) σ pc lv st0 := by
  intro σ' r hr p e s m args below meth c H locs ls F hP hS hlv
  cases hres : res1 with
  | none => rw [hres] at hr; cases hr
  | some pr =>
    obtain ⟨σ1, r1⟩ := pr
    rw [hres] at hr
    have K := fun H1 locs1 a b => kk σ1 r1 σ' r hr p e s m args below meth c H1 locs1 ls F a b hlv
    have hMet := hM σ1 r1 hres
    obtain ⟨hx, hb, hml, -, -, hown, hts, hE⟩ := F
    obtain ⟨c1, c2, c3, c4, c5⟩ := hC
    obtain ⟨fs, hfs⟩ := ce_obj (E := E) (f := σ q) hq hci
    refine call_go (va_runV (As := As) (rest := rest) (b := eAd E q) (C := C) (bytes := bytes) (maxL := maxL) (ret := ret) (index := index) (n := n) ⟨hx, hb, hml, hown, hts⟩ hMet ⟨callB_of n hts (good_code c4) rfl hrm.1 hrm.2 (hts _ c3) (hts _ hl) c5 hR, hts _ c1, hts _ c2⟩ ⟨Pre_blind, va_recv hE.1 hP hc (by rw [Wd_get (kd_lt hq (by omega)), hfs]), fun U hU hW => ⟨rfl, hE.move hS hU hW, by rw [hU]; exact hP⟩⟩ rfl hn hlv.1 hst (lv_room hw) d ⟨hcs.1, hcs.2⟩) hS K
theorem v_callS {β : Type} {rv1 : β → Option Value} {res1 : Option (Mem × β)} {body : Mem → β → Option (Mem × α)} {y : MethodName} {bytes : ByteArray} {maxL index n : Nat} {ret : Option FieldType} {rm : Room} {As rest st0 : List Value}
    (hM : CT l E y bytes maxL ret rm rv1 res1 As σ) (hC : CalS y bytes maxL ret n) (hl : Cond.methodLink own index y ∈ tb) (hrm : rm.cells = 0 ∧ rm.slots = 0) (hR : rm.frames + 1 ≤ R.frames ∧ 8 + (maxL + 11) + rm.locals ≤ R.locals) (hcs : cells ≤ R.cells ∧ slots ≤ R.slots) (hn : As.length = n) (hst : st0 = As.reverse ++ rest) (hw : (rest.map fun v => v.category).sum ≤ 8) (d : decode cc pc = .ok (.invokestatic index, 3))
    (kk : ∀ (σ1 : Mem) (r1 : β), V l E own cc nL rt R cells slots Z rv (body σ1 r1) σ1 (pc + 3) lv ((rv1 r1).toList ++ rest)) : V l E own cc nL rt R cells slots Z rv (bm res1 body) σ pc lv st0 := by
  intro σ' r hr p e s m args below meth c H locs ls F hP hS hlv
  cases hres : res1 with
  | none => rw [hres] at hr; cases hr
  | some pr =>
    obtain ⟨σ1, r1⟩ := pr
    rw [hres] at hr
    have K := fun H1 locs1 a b => kk σ1 r1 σ' r hr p e s m args below meth c H1 locs1 ls F a b hlv
    have hMet := hM σ1 r1 hres
    obtain ⟨hx, hb, hml, -, -, hown, hts, hE⟩ := F
    obtain ⟨c1, c3, c4, c5⟩ := hC
    refine call_go (va_runS (As := As) (rest := rest) (bytes := bytes) (maxL := maxL) (ret := ret) (index := index) (n := n) ⟨hx, hb, hml, hown, hts⟩ hMet ⟨callB_of n hts (good_code c4) rfl hrm.1 hrm.2 (hts _ c3) (hts _ hl) c5 hR, hts _ c1⟩ ⟨Pre_blind, fun U hU hW => ⟨rfl, hE.move hS hU hW, by rw [hU]; exact hP⟩⟩ rfl hn hlv.1 hst (lv_room hw) d ⟨hcs.1, hcs.2⟩) hS K
theorem v_callSN {β : Type} {rv1 : β → Option Value} {res1 : Option (Mem × β)} {body : Mem → β → Option (Mem × α)} {y : MethodName} {bytes : ByteArray} {maxL index n : Nat} {host : String} {ret : Option FieldType} {rm : Room} {As rest st0 : List Value}
    (hM : CT l E y bytes maxL ret rm rv1 res1 As σ) (hC : CalS y bytes maxL ret n) (hl : Cond.methodLinkNest own index y host ∈ lw_tbl) (hrm : rm.cells = 0 ∧ rm.slots = 0) (hR : rm.frames + 1 ≤ R.frames ∧ 8 + (maxL + 11) + rm.locals ≤ R.locals) (hcs : cells ≤ R.cells ∧ slots ≤ R.slots) (hn : As.length = n) (hst : st0 = As.reverse ++ rest) (hw : (rest.map fun v => v.category).sum ≤ 8) (d : decode cc pc = .ok (.invokestatic index, 3))
    (kk : ∀ (σ1 : Mem) (r1 : β), V l E own cc nL rt R cells slots Z rv (body σ1 r1) σ1 (pc + 3) lv ((rv1 r1).toList ++ rest)) : V l E own cc nL rt R cells slots Z rv (bm res1 body) σ pc lv st0 := by
  intro σ' r hr p e s m args below meth c H locs ls F hP hS hlv
  cases hres : res1 with
  | none => rw [hres] at hr; cases hr
  | some pr =>
    obtain ⟨σ1, r1⟩ := pr
    rw [hres] at hr
    have K := fun H1 locs1 a b => kk σ1 r1 σ' r hr p e s m args below meth c H1 locs1 ls F a b hlv
    have hMet := hM σ1 r1 hres
    obtain ⟨hx, hb, hml, -, -, hown, hts, hE⟩ := F
    obtain ⟨c1, c3, c4, c5⟩ := hC
    refine call_go (va_runSN (As := As) (rest := rest) (bytes := bytes) (maxL := maxL) (ret := ret) (index := index) (n := n) (host := host) ⟨hx, hb, hml, hown, hts⟩ hMet ⟨va_cnB n hts (good_code c4) rfl hrm.1 hrm.2 (hE.2.1 _ hl rfl) (hts _ c3) c5 hR, hts _ c1, trivial⟩ ⟨Pre_blind, fun U hU hW => ⟨rfl, hE.move hS hU hW, by rw [hU]; exact hP⟩⟩ rfl hn hlv.1 hst (lv_room hw) d ⟨hcs.1, hcs.2⟩) hS K
theorem nar_B {x : Int32} (h : isB x = true) : narrow .boolean (.int x) = .int x := by
  rcases of_decide_eq_true h with h | h <;> subst h <;> rfl
theorem fit_B {x : Int32} (h : isB x = true) : fits .boolean (.int x) = true := by
  rcases of_decide_eq_true h with h | h <;> subst h <;> rfl
theorem v_iret {x : Int32} (d : decode cc pc = .ok (.ireturn, 1)) : V l E own cc nL (some .int) R 0 0 (Zm E) rvI (some (σ, x)) σ pc lv [.int x] := by
  intro σ' r hr p e s m args below meth c H locs ls F hP hS hl
  cases hr
  obtain ⟨hx, hb, -, hrt, hlk, -⟩ := F
  exact W.iret hx hb hrt (fun t ht hW => ⟨rfl, by rw [ht]; exact hP, hS.F ht⟩) hS.2.2 d hlk
theorem v_zret {x : Int32} (hB : isB x = true) (d : decode cc pc = .ok (.ireturn, 1)) : V l E own cc nL (some .boolean) R 0 0 (Zm E) rvI (some (σ, x)) σ pc lv [.int x] := by
  intro σ' r hr p e s m args below meth c H locs ls F hP hS hl
  cases hr
  obtain ⟨hx, hb, -, hrt, hlk, -⟩ := F
  exact W.zret hx hb hrt (nar_B hB) (fun t ht hW => ⟨rfl, by rw [ht]; exact hP, hS.F ht⟩) hS.2.2 d hlk
theorem v_vret (d : decode cc pc = .ok (.return_, 1)) : V l E own cc nL none R 0 0 (Zm E) rvV (some (σ, ())) σ pc lv [] := by
  intro σ' r hr p e s m args below meth c H locs ls F hP hS hl
  cases hr
  obtain ⟨hx, hb, -, hrt, hlk, -⟩ := F
  exact W.vret hx hb hrt (fun t ht hW => ⟨rfl, by rw [ht]; exact hP, hS.F ht⟩) hS.2.2 d hlk
theorem v_lret {x : Int64} (d : decode cc pc = .ok (.lreturn, 1)) : V l E own cc nL (some .long) R 0 0 (Zm E) rvL (some (σ, x)) σ pc lv [.long x] := by
  intro σ' r hr p e s m args below meth c H locs ls F hP hS hl
  cases hr
  obtain ⟨hx, hb, -, hrt, hlk, -⟩ := F
  exact W.lret hx hb hrt (fun t ht hW => ⟨rfl, by rw [ht]; exact hP, hS.F ht⟩) hS.2.2 d hlk

theorem v_iadd {x y : Int32} (d : decode cc pc = .ok (.iadd, 1)) (k : V l E own cc nL rt R cells slots Z rv res σ (pc + 1) lv (.int (x + y) :: st)) : V l E own cc nL rt R cells slots Z rv res σ pc lv (.int y :: .int x :: st) := by
  intro σ' r hr p e s m args below meth c H locs ls F hP hS hl
  exact lv_iadd F.1 F.2.1 d (k σ' r hr p e s m args below meth c H locs ls F hP hS hl)

theorem v_isub {x y : Int32} (d : decode cc pc = .ok (.isub, 1)) (k : V l E own cc nL rt R cells slots Z rv res σ (pc + 1) lv (.int (x - y) :: st)) : V l E own cc nL rt R cells slots Z rv res σ pc lv (.int y :: .int x :: st) := by
  intro σ' r hr p e s m args below meth c H locs ls F hP hS hl
  exact lv_isub F.1 F.2.1 d (k σ' r hr p e s m args below meth c H locs ls F hP hS hl)

theorem v_imul {x y : Int32} (d : decode cc pc = .ok (.imul, 1)) (k : V l E own cc nL rt R cells slots Z rv res σ (pc + 1) lv (.int (x * y) :: st)) : V l E own cc nL rt R cells slots Z rv res σ pc lv (.int y :: .int x :: st) := by
  intro σ' r hr p e s m args below meth c H locs ls F hP hS hl
  exact lv_imul F.1 F.2.1 d (k σ' r hr p e s m args below meth c H locs ls F hP hS hl)

theorem v_iand {x y : Int32} (d : decode cc pc = .ok (.iand, 1)) (k : V l E own cc nL rt R cells slots Z rv res σ (pc + 1) lv (.int (x &&& y) :: st)) : V l E own cc nL rt R cells slots Z rv res σ pc lv (.int y :: .int x :: st) := by
  intro σ' r hr p e s m args below meth c H locs ls F hP hS hl
  exact lv_iand F.1 F.2.1 d (k σ' r hr p e s m args below meth c H locs ls F hP hS hl)

theorem v_ior {x y : Int32} (d : decode cc pc = .ok (.ior, 1)) (k : V l E own cc nL rt R cells slots Z rv res σ (pc + 1) lv (.int (x ||| y) :: st)) : V l E own cc nL rt R cells slots Z rv res σ pc lv (.int y :: .int x :: st) := by
  intro σ' r hr p e s m args below meth c H locs ls F hP hS hl
  exact lv_ior F.1 F.2.1 d (k σ' r hr p e s m args below meth c H locs ls F hP hS hl)

theorem v_ixor {x y : Int32} (d : decode cc pc = .ok (.ixor, 1)) (k : V l E own cc nL rt R cells slots Z rv res σ (pc + 1) lv (.int (x ^^^ y) :: st)) : V l E own cc nL rt R cells slots Z rv res σ pc lv (.int y :: .int x :: st) := by
  intro σ' r hr p e s m args below meth c H locs ls F hP hS hl
  exact lv_ixor F.1 F.2.1 d (k σ' r hr p e s m args below meth c H locs ls F hP hS hl)

theorem v_ishl {x y : Int32} (d : decode cc pc = .ok (.ishl, 1)) (k : V l E own cc nL rt R cells slots Z rv res σ (pc + 1) lv (.int (x <<< (y &&& 31)) :: st)) : V l E own cc nL rt R cells slots Z rv res σ pc lv (.int y :: .int x :: st) := by
  intro σ' r hr p e s m args below meth c H locs ls F hP hS hl
  exact lv_ishl F.1 F.2.1 d (k σ' r hr p e s m args below meth c H locs ls F hP hS hl)

theorem v_ishr {x y : Int32} (d : decode cc pc = .ok (.ishr, 1)) (k : V l E own cc nL rt R cells slots Z rv res σ (pc + 1) lv (.int (x >>> (y &&& 31)) :: st)) : V l E own cc nL rt R cells slots Z rv res σ pc lv (.int y :: .int x :: st) := by
  intro σ' r hr p e s m args below meth c H locs ls F hP hS hl
  exact lv_ishr F.1 F.2.1 d (k σ' r hr p e s m args below meth c H locs ls F hP hS hl)

theorem v_idiv {x y : Int32} (d : decode cc pc = .ok (.idiv, 1)) (hne : ¬ y = 0) (k : V l E own cc nL rt R cells slots Z rv res σ (pc + 1) lv (.int (x / y) :: st)) : V l E own cc nL rt R cells slots Z rv res σ pc lv (.int y :: .int x :: st) := by
  intro σ' r hr p e s m args below meth c H locs ls F hP hS hl
  exact lv_idiv F.1 F.2.1 d hne (k σ' r hr p e s m args below meth c H locs ls F hP hS hl)

theorem v_irem {x y : Int32} (d : decode cc pc = .ok (.irem, 1)) (hne : ¬ y = 0) (k : V l E own cc nL rt R cells slots Z rv res σ (pc + 1) lv (.int (x - x / y * y) :: st)) : V l E own cc nL rt R cells slots Z rv res σ pc lv (.int y :: .int x :: st) := by
  intro σ' r hr p e s m args below meth c H locs ls F hP hS hl
  exact lv_irem F.1 F.2.1 d hne (k σ' r hr p e s m args below meth c H locs ls F hP hS hl)

theorem v_ineg {x : Int32} (d : decode cc pc = .ok (.ineg, 1)) (k : V l E own cc nL rt R cells slots Z rv res σ (pc + 1) lv (.int (-x) :: st)) : V l E own cc nL rt R cells slots Z rv res σ pc lv (.int x :: st) := by
  intro σ' r hr p e s m args below meth c H locs ls F hP hS hl
  exact lv_ineg F.1 F.2.1 d (k σ' r hr p e s m args below meth c H locs ls F hP hS hl)

theorem v_i2b {x : Int32} (d : decode cc pc = .ok (.i2b, 1)) (k : V l E own cc nL rt R cells slots Z rv res σ (pc + 1) lv (.int (x.toInt8.toInt32) :: st)) : V l E own cc nL rt R cells slots Z rv res σ pc lv (.int x :: st) := by
  intro σ' r hr p e s m args below meth c H locs ls F hP hS hl
  exact lv_i2b F.1 F.2.1 d rfl (k σ' r hr p e s m args below meth c H locs ls F hP hS hl)

theorem v_i2l {x : Int32} (d : decode cc pc = .ok (.i2l, 1)) (k : V l E own cc nL rt R cells slots Z rv res σ (pc + 1) lv (.long (x.toInt64) :: st)) : V l E own cc nL rt R cells slots Z rv res σ pc lv (.int x :: st) := by
  intro σ' r hr p e s m args below meth c H locs ls F hP hS hl
  exact lv_i2l F.1 F.2.1 d rfl (k σ' r hr p e s m args below meth c H locs ls F hP hS hl)

theorem v_ladd {x y : Int64} (d : decode cc pc = .ok (.ladd, 1)) (k : V l E own cc nL rt R cells slots Z rv res σ (pc + 1) lv (.long (x + y) :: st)) : V l E own cc nL rt R cells slots Z rv res σ pc lv (.long y :: .long x :: st) := by
  intro σ' r hr p e s m args below meth c H locs ls F hP hS hl
  exact lv_ladd F.1 F.2.1 d (k σ' r hr p e s m args below meth c H locs ls F hP hS hl)

theorem v_lmul {x y : Int64} (d : decode cc pc = .ok (.lmul, 1)) (k : V l E own cc nL rt R cells slots Z rv res σ (pc + 1) lv (.long (x * y) :: st)) : V l E own cc nL rt R cells slots Z rv res σ pc lv (.long y :: .long x :: st) := by
  intro σ' r hr p e s m args below meth c H locs ls F hP hS hl
  exact lv_lmul F.1 F.2.1 d (k σ' r hr p e s m args below meth c H locs ls F hP hS hl)

theorem v_lcmp {x y : Int64} (d : decode cc pc = .ok (.lcmp, 1)) (k : V l E own cc nL rt R cells slots Z rv res σ (pc + 1) lv (.int (lg_cmp x y) :: st)) : V l E own cc nL rt R cells slots Z rv res σ pc lv (.long y :: .long x :: st) := by
  intro σ' r hr p e s m args below meth c H locs ls F hP hS hl
  exact W.lcmp F.1 F.2.1 d (k σ' r hr p e s m args below meth c H locs ls F hP hS hl)

theorem v_iconst {n : Int} {v : Int32} (d : decode cc pc = .ok (.iconst n, 1)) (hv : Int32.ofInt n = v) (k : V l E own cc nL rt R cells slots Z rv res σ (pc + 1) lv (.int v :: st)) : V l E own cc nL rt R cells slots Z rv res σ pc lv (st) := by
  intro σ' r hr p e s m args below meth c H locs ls F hP hS hl
  exact lv_iconst F.1 F.2.1 d hv (k σ' r hr p e s m args below meth c H locs ls F hP hS hl)

theorem v_bipush {n : Int} {v : Int32} (d : decode cc pc = .ok (.bipush n, 2)) (hv : (Int8.ofInt n).toInt32 = v) (k : V l E own cc nL rt R cells slots Z rv res σ (pc + 2) lv (.int v :: st)) : V l E own cc nL rt R cells slots Z rv res σ pc lv (st) := by
  intro σ' r hr p e s m args below meth c H locs ls F hP hS hl
  exact lv_bipush F.1 F.2.1 d hv (k σ' r hr p e s m args below meth c H locs ls F hP hS hl)

theorem v_sipush {n : Int} {v : Int32} (d : decode cc pc = .ok (.sipush n, 3)) (hv : (Int16.ofInt n).toInt32 = v) (k : V l E own cc nL rt R cells slots Z rv res σ (pc + 3) lv (.int v :: st)) : V l E own cc nL rt R cells slots Z rv res σ pc lv (st) := by
  intro σ' r hr p e s m args below meth c H locs ls F hP hS hl
  exact lv_sipush F.1 F.2.1 d hv (k σ' r hr p e s m args below meth c H locs ls F hP hS hl)

theorem v_dup {va : Value} (d : decode cc pc = .ok (.dup, 1)) (hva : va.category = 1) (k : V l E own cc nL rt R cells slots Z rv res σ (pc + 1) lv (va :: va :: st)) : V l E own cc nL rt R cells slots Z rv res σ pc lv (va :: st) := by
  intro σ' r hr p e s m args below meth c H locs ls F hP hS hl
  exact lv_dup F.1 F.2.1 d hva (k σ' r hr p e s m args below meth c H locs ls F hP hS hl)

theorem v_pop {va : Value} (d : decode cc pc = .ok (.pop, 1)) (hva : va.category = 1) (k : V l E own cc nL rt R cells slots Z rv res σ (pc + 1) lv (st)) : V l E own cc nL rt R cells slots Z rv res σ pc lv (va :: st) := by
  intro σ' r hr p e s m args below meth c H locs ls F hP hS hl
  exact lv_pop F.1 F.2.1 d hva (k σ' r hr p e s m args below meth c H locs ls F hP hS hl)

theorem v_dup_x1 {va vb : Value} (d : decode cc pc = .ok (.dup_x1, 1)) (hva : va.category = 1) (hvb : vb.category = 1) (k : V l E own cc nL rt R cells slots Z rv res σ (pc + 1) lv (va :: vb :: va :: st)) : V l E own cc nL rt R cells slots Z rv res σ pc lv (va :: vb :: st) := by
  intro σ' r hr p e s m args below meth c H locs ls F hP hS hl
  exact lv_dup_x1 F.1 F.2.1 d hva hvb (k σ' r hr p e s m args below meth c H locs ls F hP hS hl)

theorem v_dup_x2 {va vb vd : Value} (d : decode cc pc = .ok (.dup_x2, 1)) (hva : va.category = 1) (hvb : vb.category = 1) (hvd : vd.category = 1) (k : V l E own cc nL rt R cells slots Z rv res σ (pc + 1) lv (va :: vb :: vd :: va :: st)) : V l E own cc nL rt R cells slots Z rv res σ pc lv (va :: vb :: vd :: st) := by
  intro σ' r hr p e s m args below meth c H locs ls F hP hS hl
  exact lv_dup_x2 F.1 F.2.1 d hva hvb hvd (k σ' r hr p e s m args below meth c H locs ls F hP hS hl)

theorem v_dup2 {va vb : Value} (d : decode cc pc = .ok (.dup2, 1)) (hva : va.category = 1) (hvb : vb.category = 1) (k : V l E own cc nL rt R cells slots Z rv res σ (pc + 1) lv (va :: vb :: va :: vb :: st)) : V l E own cc nL rt R cells slots Z rv res σ pc lv (va :: vb :: st) := by
  intro σ' r hr p e s m args below meth c H locs ls F hP hS hl
  exact lv_dup2_11 F.1 F.2.1 d hva hvb (k σ' r hr p e s m args below meth c H locs ls F hP hS hl)

theorem v_iload_n {k0 : Fin 4} {i : Nat} {x : Int32} (d : decode cc pc = .ok (.iload_n k0, 1)) (hi : (k0 : Nat) = i) (j : Nat) (hj : lv[j]? = some (i, .int x)) (k : V l E own cc nL rt R cells slots Z rv res σ (pc + 1) lv (.int x :: st)) : V l E own cc nL rt R cells slots Z rv res σ pc lv st := by
  intro σ' r hr p e s m args below meth c H locs ls F hP hS hl
  exact lv_iload_n F.1 F.2.1 d hi (lv_at hl j hj) (k σ' r hr p e s m args below meth c H locs ls F hP hS hl)

theorem v_iload {i : Nat} {x : Int32} (d : decode cc pc = .ok (.iload i, 2)) (j : Nat) (hj : lv[j]? = some (i, .int x)) (k : V l E own cc nL rt R cells slots Z rv res σ (pc + 2) lv (.int x :: st)) : V l E own cc nL rt R cells slots Z rv res σ pc lv st := by
  intro σ' r hr p e s m args below meth c H locs ls F hP hS hl
  exact lv_iload F.1 F.2.1 d (lv_at hl j hj) (k σ' r hr p e s m args below meth c H locs ls F hP hS hl)

theorem v_lload_n {k0 : Fin 4} {i : Nat} {x : Int64} (d : decode cc pc = .ok (.lload_n k0, 1)) (hi : (k0 : Nat) = i) (j : Nat) (hj : lv[j]? = some (i, .long x)) (k : V l E own cc nL rt R cells slots Z rv res σ (pc + 1) lv (.long x :: st)) : V l E own cc nL rt R cells slots Z rv res σ pc lv st := by
  intro σ' r hr p e s m args below meth c H locs ls F hP hS hl
  exact lv_lload_n F.1 F.2.1 d hi (lv_at hl j hj) (k σ' r hr p e s m args below meth c H locs ls F hP hS hl)

theorem v_lload {i : Nat} {x : Int64} (d : decode cc pc = .ok (.lload i, 2)) (j : Nat) (hj : lv[j]? = some (i, .long x)) (k : V l E own cc nL rt R cells slots Z rv res σ (pc + 2) lv (.long x :: st)) : V l E own cc nL rt R cells slots Z rv res σ pc lv st := by
  intro σ' r hr p e s m args below meth c H locs ls F hP hS hl
  exact lv_lload F.1 F.2.1 d (lv_at hl j hj) (k σ' r hr p e s m args below meth c H locs ls F hP hS hl)

theorem v_aload_n {k0 : Fin 4} {i : Nat} {x : Nat} (d : decode cc pc = .ok (.aload_n k0, 1)) (hi : (k0 : Nat) = i) (j : Nat) (hj : lv[j]? = some (i, .ref x)) (k : V l E own cc nL rt R cells slots Z rv res σ (pc + 1) lv (.ref x :: st)) : V l E own cc nL rt R cells slots Z rv res σ pc lv st := by
  intro σ' r hr p e s m args below meth c H locs ls F hP hS hl
  exact lv_aload_n F.1 F.2.1 d hi (lv_at hl j hj) (k σ' r hr p e s m args below meth c H locs ls F hP hS hl)

theorem v_aload {i : Nat} {x : Nat} (d : decode cc pc = .ok (.aload i, 2)) (j : Nat) (hj : lv[j]? = some (i, .ref x)) (k : V l E own cc nL rt R cells slots Z rv res σ (pc + 2) lv (.ref x :: st)) : V l E own cc nL rt R cells slots Z rv res σ pc lv st := by
  intro σ' r hr p e s m args below meth c H locs ls F hP hS hl
  exact lv_aload F.1 F.2.1 d (lv_at hl j hj) (k σ' r hr p e s m args below meth c H locs ls F hP hS hl)

theorem v_istore_n {k0 : Fin 4} {i : Nat} {x : Int32} {lv' : List (Nat × Value)} (d : decode cc pc = .ok (.istore_n k0, 1)) (hi : (k0 : Nat) = i) (hn : i < nL) (hlv : (i, Value.int x) :: lv.filter (fun q => !(q.1 == i) && !(q.1 + 1 == i && q.2.category == 2)) = lv') (k : V l E own cc nL rt R cells slots Z rv res σ (pc + 1) lv' st) : V l E own cc nL rt R cells slots Z rv res σ pc lv (.int x :: st) := by
  intro σ' r hr p e s m args below meth c H locs ls F hP hS hl
  exact lv_istore_n F.1 F.2.1 d hi hl hn hlv (fun ls1 hl1 => k σ' r hr p e s m args below meth c H locs ls1 F hP hS hl1)

theorem v_istore {i : Nat} {x : Int32} {lv' : List (Nat × Value)} (d : decode cc pc = .ok (.istore i, 2)) (hn : i < nL) (hlv : (i, Value.int x) :: lv.filter (fun q => !(q.1 == i) && !(q.1 + 1 == i && q.2.category == 2)) = lv') (k : V l E own cc nL rt R cells slots Z rv res σ (pc + 2) lv' st) : V l E own cc nL rt R cells slots Z rv res σ pc lv (.int x :: st) := by
  intro σ' r hr p e s m args below meth c H locs ls F hP hS hl
  exact lv_istore F.1 F.2.1 d hl hn hlv (fun ls1 hl1 => k σ' r hr p e s m args below meth c H locs ls1 F hP hS hl1)

theorem v_lstore_n {k0 : Fin 4} {i : Nat} {x : Int64} {lv' : List (Nat × Value)} (d : decode cc pc = .ok (.lstore_n k0, 1)) (hi : (k0 : Nat) = i) (hn : i + 1 < nL) (hlv : (i, Value.long x) :: lv.filter (fun q => !(q.1 == i) && (!(q.1 == i + 1) && !(q.1 + 1 == i && q.2.category == 2))) = lv') (k : V l E own cc nL rt R cells slots Z rv res σ (pc + 1) lv' st) : V l E own cc nL rt R cells slots Z rv res σ pc lv (.long x :: st) := by
  intro σ' r hr p e s m args below meth c H locs ls F hP hS hl
  exact lv_lstore_n F.1 F.2.1 d hi hl hn hlv (fun ls1 hl1 => k σ' r hr p e s m args below meth c H locs ls1 F hP hS hl1)

theorem v_lstore {i : Nat} {x : Int64} {lv' : List (Nat × Value)} (d : decode cc pc = .ok (.lstore i, 2)) (hn : i + 1 < nL) (hlv : (i, Value.long x) :: lv.filter (fun q => !(q.1 == i) && (!(q.1 == i + 1) && !(q.1 + 1 == i && q.2.category == 2))) = lv') (k : V l E own cc nL rt R cells slots Z rv res σ (pc + 2) lv' st) : V l E own cc nL rt R cells slots Z rv res σ pc lv (.long x :: st) := by
  intro σ' r hr p e s m args below meth c H locs ls F hP hS hl
  exact lv_lstore F.1 F.2.1 d hl hn hlv (fun ls1 hl1 => k σ' r hr p e s m args below meth c H locs ls1 F hP hS hl1)

theorem v_astore_n {k0 : Fin 4} {i : Nat} {x : Nat} {lv' : List (Nat × Value)} (d : decode cc pc = .ok (.astore_n k0, 1)) (hi : (k0 : Nat) = i) (hn : i < nL) (hlv : (i, Value.ref x) :: lv.filter (fun q => !(q.1 == i) && !(q.1 + 1 == i && q.2.category == 2)) = lv') (k : V l E own cc nL rt R cells slots Z rv res σ (pc + 1) lv' st) : V l E own cc nL rt R cells slots Z rv res σ pc lv (.ref x :: st) := by
  intro σ' r hr p e s m args below meth c H locs ls F hP hS hl
  exact lv_astore_n F.1 F.2.1 d hi hl hn hlv (fun ls1 hl1 => k σ' r hr p e s m args below meth c H locs ls1 F hP hS hl1)

theorem v_astore {i : Nat} {x : Nat} {lv' : List (Nat × Value)} (d : decode cc pc = .ok (.astore i, 2)) (hn : i < nL) (hlv : (i, Value.ref x) :: lv.filter (fun q => !(q.1 == i) && !(q.1 + 1 == i && q.2.category == 2)) = lv') (k : V l E own cc nL rt R cells slots Z rv res σ (pc + 2) lv' st) : V l E own cc nL rt R cells slots Z rv res σ pc lv (.ref x :: st) := by
  intro σ' r hr p e s m args below meth c H locs ls F hP hS hl
  exact lv_astore F.1 F.2.1 d hl hn hlv (fun ls1 hl1 => k σ' r hr p e s m args below meth c H locs ls1 F hP hS hl1)

theorem v_iinc {i : Nat} {n : Int} {x v : Int32} {lv' : List (Nat × Value)} (d : decode cc pc = .ok (.iinc i n, 3)) (j : Nat) (hj : lv[j]? = some (i, .int x)) (hv : x + Int32.ofInt n = v) (hn : i < nL) (hlv : (i, Value.int v) :: lv.filter (fun q => !(q.1 == i) && !(q.1 + 1 == i && q.2.category == 2)) = lv') (k : V l E own cc nL rt R cells slots Z rv res σ (pc + 3) lv' st) : V l E own cc nL rt R cells slots Z rv res σ pc lv st := by
  intro σ' r hr p e s m args below meth c H locs ls F hP hS hl
  exact lv_iinc F.1 F.2.1 d hl hj hv hn hlv (fun ls1 hl1 => k σ' r hr p e s m args below meth c H locs ls1 F hP hS hl1)

theorem v_goto {off : Int} {tgt : Nat} (d : decode cc pc = .ok (.goto off, 3)) (ht : (pc : Int) + off = (tgt : Int)) (k : V l E own cc nL rt R cells slots Z rv res σ tgt lv st) : V l E own cc nL rt R cells slots Z rv res σ pc lv st := by
  intro σ' r hr p e s m args below meth c H locs ls F hP hS hl
  exact lv_goto F.1 F.2.1 d ht (k σ' r hr p e s m args below meth c H locs ls F hP hS hl)

theorem v_if_eq {x : Int32} {ra rb : Option (Mem × α)} {off : Int} {tgt : Nat} (d : decode cc pc = .ok (.ifCond .eq off, 3)) (ht : (pc : Int) + off = (tgt : Int)) (kt : V l E own cc nL rt R cells slots Z rv ra σ tgt lv st) (kf : V l E own cc nL rt R cells slots Z rv rb σ (pc + 3) lv st) : V l E own cc nL rt R cells slots Z rv (if x = 0 then ra else rb) σ pc lv (.int x :: st) := by
  intro σ' r hr p e s m args below meth c H locs ls F hP hS hl
  exact lv_if_eq F.1 F.2.1 d ht (fun h => kt σ' r (by rw [if_pos h] at hr; exact hr) p e s m args below meth c H locs ls F hP hS hl) (fun h => kf σ' r (by rw [if_neg h] at hr; exact hr) p e s m args below meth c H locs ls F hP hS hl)

theorem v_if_ne {x : Int32} {ra rb : Option (Mem × α)} {off : Int} {tgt : Nat} (d : decode cc pc = .ok (.ifCond .ne off, 3)) (ht : (pc : Int) + off = (tgt : Int)) (kt : V l E own cc nL rt R cells slots Z rv rb σ tgt lv st) (kf : V l E own cc nL rt R cells slots Z rv ra σ (pc + 3) lv st) : V l E own cc nL rt R cells slots Z rv (if x = 0 then ra else rb) σ pc lv (.int x :: st) := by
  intro σ' r hr p e s m args below meth c H locs ls F hP hS hl
  exact lv_if_ne F.1 F.2.1 d ht (fun h => kt σ' r (by rw [if_neg h] at hr; exact hr) p e s m args below meth c H locs ls F hP hS hl) (fun h => kf σ' r (by rw [if_pos h] at hr; exact hr) p e s m args below meth c H locs ls F hP hS hl)

theorem v_if_lt {x : Int32} {ra rb : Option (Mem × α)} {off : Int} {tgt : Nat} (d : decode cc pc = .ok (.ifCond .lt off, 3)) (ht : (pc : Int) + off = (tgt : Int)) (kt : V l E own cc nL rt R cells slots Z rv ra σ tgt lv st) (kf : V l E own cc nL rt R cells slots Z rv rb σ (pc + 3) lv st) : V l E own cc nL rt R cells slots Z rv (if x < 0 then ra else rb) σ pc lv (.int x :: st) := by
  intro σ' r hr p e s m args below meth c H locs ls F hP hS hl
  exact lv_if_lt F.1 F.2.1 d ht (fun h => kt σ' r (by rw [if_pos h] at hr; exact hr) p e s m args below meth c H locs ls F hP hS hl) (fun h => kf σ' r (by rw [if_neg h] at hr; exact hr) p e s m args below meth c H locs ls F hP hS hl)

theorem v_if_ge {x : Int32} {ra rb : Option (Mem × α)} {off : Int} {tgt : Nat} (d : decode cc pc = .ok (.ifCond .ge off, 3)) (ht : (pc : Int) + off = (tgt : Int)) (kt : V l E own cc nL rt R cells slots Z rv ra σ tgt lv st) (kf : V l E own cc nL rt R cells slots Z rv rb σ (pc + 3) lv st) : V l E own cc nL rt R cells slots Z rv (if 0 ≤ x then ra else rb) σ pc lv (.int x :: st) := by
  intro σ' r hr p e s m args below meth c H locs ls F hP hS hl
  exact lv_if_ge F.1 F.2.1 d ht (fun h => kt σ' r (by rw [if_pos h] at hr; exact hr) p e s m args below meth c H locs ls F hP hS hl) (fun h => kf σ' r (by rw [if_neg h] at hr; exact hr) p e s m args below meth c H locs ls F hP hS hl)

theorem v_if_gt {x : Int32} {ra rb : Option (Mem × α)} {off : Int} {tgt : Nat} (d : decode cc pc = .ok (.ifCond .gt off, 3)) (ht : (pc : Int) + off = (tgt : Int)) (kt : V l E own cc nL rt R cells slots Z rv ra σ tgt lv st) (kf : V l E own cc nL rt R cells slots Z rv rb σ (pc + 3) lv st) : V l E own cc nL rt R cells slots Z rv (if 0 < x then ra else rb) σ pc lv (.int x :: st) := by
  intro σ' r hr p e s m args below meth c H locs ls F hP hS hl
  exact lv_if_gt F.1 F.2.1 d ht (fun h => kt σ' r (by rw [if_pos h] at hr; exact hr) p e s m args below meth c H locs ls F hP hS hl) (fun h => kf σ' r (by rw [if_neg h] at hr; exact hr) p e s m args below meth c H locs ls F hP hS hl)

theorem v_if_le {x : Int32} {ra rb : Option (Mem × α)} {off : Int} {tgt : Nat} (d : decode cc pc = .ok (.ifCond .le off, 3)) (ht : (pc : Int) + off = (tgt : Int)) (kt : V l E own cc nL rt R cells slots Z rv ra σ tgt lv st) (kf : V l E own cc nL rt R cells slots Z rv rb σ (pc + 3) lv st) : V l E own cc nL rt R cells slots Z rv (if x ≤ 0 then ra else rb) σ pc lv (.int x :: st) := by
  intro σ' r hr p e s m args below meth c H locs ls F hP hS hl
  exact lv_if_le F.1 F.2.1 d ht (fun h => kt σ' r (by rw [if_pos h] at hr; exact hr) p e s m args below meth c H locs ls F hP hS hl) (fun h => kf σ' r (by rw [if_neg h] at hr; exact hr) p e s m args below meth c H locs ls F hP hS hl)

theorem v_icmp_eq {x y : Int32} {ra rb : Option (Mem × α)} {off : Int} {tgt : Nat} (d : decode cc pc = .ok (.if_icmp .eq off, 3)) (ht : (pc : Int) + off = (tgt : Int)) (kt : V l E own cc nL rt R cells slots Z rv ra σ tgt lv st) (kf : V l E own cc nL rt R cells slots Z rv rb σ (pc + 3) lv st) : V l E own cc nL rt R cells slots Z rv (if x = y then ra else rb) σ pc lv (.int y :: .int x :: st) := by
  intro σ' r hr p e s m args below meth c H locs ls F hP hS hl
  exact lv_icmp_eq F.1 F.2.1 d ht (fun h => kt σ' r (by rw [if_pos h] at hr; exact hr) p e s m args below meth c H locs ls F hP hS hl) (fun h => kf σ' r (by rw [if_neg h] at hr; exact hr) p e s m args below meth c H locs ls F hP hS hl)

theorem v_icmp_ne {x y : Int32} {ra rb : Option (Mem × α)} {off : Int} {tgt : Nat} (d : decode cc pc = .ok (.if_icmp .ne off, 3)) (ht : (pc : Int) + off = (tgt : Int)) (kt : V l E own cc nL rt R cells slots Z rv rb σ tgt lv st) (kf : V l E own cc nL rt R cells slots Z rv ra σ (pc + 3) lv st) : V l E own cc nL rt R cells slots Z rv (if x = y then ra else rb) σ pc lv (.int y :: .int x :: st) := by
  intro σ' r hr p e s m args below meth c H locs ls F hP hS hl
  exact lv_icmp_ne F.1 F.2.1 d ht (fun h => kt σ' r (by rw [if_neg h] at hr; exact hr) p e s m args below meth c H locs ls F hP hS hl) (fun h => kf σ' r (by rw [if_pos h] at hr; exact hr) p e s m args below meth c H locs ls F hP hS hl)

theorem v_icmp_lt {x y : Int32} {ra rb : Option (Mem × α)} {off : Int} {tgt : Nat} (d : decode cc pc = .ok (.if_icmp .lt off, 3)) (ht : (pc : Int) + off = (tgt : Int)) (kt : V l E own cc nL rt R cells slots Z rv ra σ tgt lv st) (kf : V l E own cc nL rt R cells slots Z rv rb σ (pc + 3) lv st) : V l E own cc nL rt R cells slots Z rv (if x < y then ra else rb) σ pc lv (.int y :: .int x :: st) := by
  intro σ' r hr p e s m args below meth c H locs ls F hP hS hl
  exact lv_icmp_lt F.1 F.2.1 d ht (fun h => kt σ' r (by rw [if_pos h] at hr; exact hr) p e s m args below meth c H locs ls F hP hS hl) (fun h => kf σ' r (by rw [if_neg h] at hr; exact hr) p e s m args below meth c H locs ls F hP hS hl)

theorem v_icmp_ge {x y : Int32} {ra rb : Option (Mem × α)} {off : Int} {tgt : Nat} (d : decode cc pc = .ok (.if_icmp .ge off, 3)) (ht : (pc : Int) + off = (tgt : Int)) (kt : V l E own cc nL rt R cells slots Z rv ra σ tgt lv st) (kf : V l E own cc nL rt R cells slots Z rv rb σ (pc + 3) lv st) : V l E own cc nL rt R cells slots Z rv (if y ≤ x then ra else rb) σ pc lv (.int y :: .int x :: st) := by
  intro σ' r hr p e s m args below meth c H locs ls F hP hS hl
  exact lv_icmp_ge F.1 F.2.1 d ht (fun h => kt σ' r (by rw [if_pos h] at hr; exact hr) p e s m args below meth c H locs ls F hP hS hl) (fun h => kf σ' r (by rw [if_neg h] at hr; exact hr) p e s m args below meth c H locs ls F hP hS hl)

theorem v_icmp_gt {x y : Int32} {ra rb : Option (Mem × α)} {off : Int} {tgt : Nat} (d : decode cc pc = .ok (.if_icmp .gt off, 3)) (ht : (pc : Int) + off = (tgt : Int)) (kt : V l E own cc nL rt R cells slots Z rv ra σ tgt lv st) (kf : V l E own cc nL rt R cells slots Z rv rb σ (pc + 3) lv st) : V l E own cc nL rt R cells slots Z rv (if y < x then ra else rb) σ pc lv (.int y :: .int x :: st) := by
  intro σ' r hr p e s m args below meth c H locs ls F hP hS hl
  exact lv_icmp_gt F.1 F.2.1 d ht (fun h => kt σ' r (by rw [if_pos h] at hr; exact hr) p e s m args below meth c H locs ls F hP hS hl) (fun h => kf σ' r (by rw [if_neg h] at hr; exact hr) p e s m args below meth c H locs ls F hP hS hl)

theorem v_icmp_le {x y : Int32} {ra rb : Option (Mem × α)} {off : Int} {tgt : Nat} (d : decode cc pc = .ok (.if_icmp .le off, 3)) (ht : (pc : Int) + off = (tgt : Int)) (kt : V l E own cc nL rt R cells slots Z rv ra σ tgt lv st) (kf : V l E own cc nL rt R cells slots Z rv rb σ (pc + 3) lv st) : V l E own cc nL rt R cells slots Z rv (if x ≤ y then ra else rb) σ pc lv (.int y :: .int x :: st) := by
  intro σ' r hr p e s m args below meth c H locs ls F hP hS hl
  exact lv_icmp_le F.1 F.2.1 d ht (fun h => kt σ' r (by rw [if_pos h] at hr; exact hr) p e s m args below meth c H locs ls F hP hS hl) (fun h => kf σ' r (by rw [if_neg h] at hr; exact hr) p e s m args below meth c H locs ls F hP hS hl)

theorem v_tcase {x k : Int32} {ra rb : Option (Mem × α)} {dflt lo hi off : Int} {offs : Array Int} {len tgt : Nat} (d : decode cc pc = .ok (.tableswitch dflt lo hi offs, len)) (h1 : ¬ k.toInt < lo) (h2 : ¬ hi < k.toInt) (ho : offs[(k.toInt - lo).toNat]? = some off) (ht : (pc : Int) + off = (tgt : Int)) (kt : V l E own cc nL rt R cells slots Z rv ra σ tgt lv st) (kf : ¬ x = k → V l E own cc nL rt R cells slots Z rv rb σ pc lv (.int x :: st)) : V l E own cc nL rt R cells slots Z rv (if x = k then ra else rb) σ pc lv (.int x :: st) := by
  intro σ' r hr
  by_cases h : x = k
  · rw [if_pos h] at hr
    subst h
    intro p e s m args below meth c H locs ls F hP hS hl
    exact lv_tableIn F.1 F.2.1 d h1 h2 ho ht (kt σ' r hr p e s m args below meth c H locs ls F hP hS hl)
  · rw [if_neg h] at hr
    exact kf h σ' r hr
theorem v_tout {x : Int32} {dflt lo hi : Int} {offs : Array Int} {len tgt : Nat} (d : decode cc pc = .ok (.tableswitch dflt lo hi offs, len)) (h : x.toInt < lo ∨ hi < x.toInt) (ht : (pc : Int) + dflt = (tgt : Int)) (k : V l E own cc nL rt R cells slots Z rv res σ tgt lv st) : V l E own cc nL rt R cells slots Z rv res σ pc lv (.int x :: st) := by
  intro σ' r hr p e s m args below meth c H locs ls F hP hS hl
  exact lv_tableOut F.1 F.2.1 d h ht (k σ' r hr p e s m args below meth c H locs ls F hP hS hl)
theorem v_lout {x : Int32} {dflt off : Int} {ps : Array (Int × Int)} {len tgt : Nat} (d : decode cc pc = .ok (.lookupswitch dflt ps, len)) (hp : (ps.toList.zip (ps.toList.drop 1)).all (fun (a, next) => a.1 < next.1) = true) (ho : Op.lookupswitch.offset ps.toList dflt x.toInt = off) (ht : (pc : Int) + off = (tgt : Int)) (k : V l E own cc nL rt R cells slots Z rv res σ tgt lv st) : V l E own cc nL rt R cells slots Z rv res σ pc lv (.int x :: st) := by
  intro σ' r hr p e s m args below meth c H locs ls F hP hS hl
  exact lv_lookup F.1 F.2.1 d hp ho ht (k σ' r hr p e s m args below meth c H locs ls F hP hS hl)
theorem v_lcase {x k : Int32} {ra rb : Option (Mem × α)} {dflt off : Int} {ps : Array (Int × Int)} {len tgt : Nat} (d : decode cc pc = .ok (.lookupswitch dflt ps, len)) (hp : (ps.toList.zip (ps.toList.drop 1)).all (fun (a, next) => a.1 < next.1) = true) (ho : Op.lookupswitch.offset ps.toList dflt k.toInt = off) (ht : (pc : Int) + off = (tgt : Int)) (kt : V l E own cc nL rt R cells slots Z rv ra σ tgt lv st) (kf : ¬ x = k → V l E own cc nL rt R cells slots Z rv rb σ pc lv (.int x :: st)) : V l E own cc nL rt R cells slots Z rv (if x = k then ra else rb) σ pc lv (.int x :: st) := by
  intro σ' r hr
  by_cases h : x = k
  · rw [if_pos h] at hr
    subst h
    intro p e s m args below meth c H locs ls F hP hS hl
    exact lv_lookup F.1 F.2.1 d hp ho ht (kt σ' r hr p e s m args below meth c H locs ls F hP hS hl)
  · rw [if_neg h] at hr
    exact kf h σ' r hr
theorem v_ldc2 {index : Nat} {v : Int64} (hc : Cond.constantLong own index v ∈ tb) (d : decode cc pc = .ok (.ldc2_w index, 3)) (k : V l E own cc nL rt R cells slots Z rv res σ (pc + 3) lv (.long v :: st)) : V l E own cc nL rt R cells slots Z rv res σ pc lv st := by
  intro σ' r hr p e s m args below meth c H locs ls F hP hS hl
  exact lv_ldc2 F.1 F.2.1 F.2.2.2.2.2.1 (F.2.2.2.2.2.2.1 _ hc) d (k σ' r hr p e s m args below meth c H locs ls F hP hS hl)
theorem v_ldcS {i index : Nat} {tx : String} (hi : i < 9) (h1 : skI.getD i 0 = index) (h2 : skT.getD i "" = tx) (ho : own = "BenchOrders$Unit") (d : decode cc pc = .ok (.ldc index, 2)) (k : V l E own cc nL rt R cells slots Z rv res σ (pc + 2) lv (.ref (eK E i) :: st)) : V l E own cc nL rt R cells slots Z rv res σ pc lv st := by
  subst h1; subst ho
  intro σ' r hr p e s m args below meth c H locs ls F hP hS hl
  exact va_ldcS F.1 F.2.1 F.2.2.2.2.2.1 (F.2.2.2.2.2.2.2.2.2.2.2.1 i hi) d (k σ' r hr p e s m args below meth c H locs ls F hP hS hl)
theorem v_mmax {index : Nat} {x y : Int32} (hl0 : Cond.methodLink own index Lib.Math.max.name ∈ tb) (hst : Cond.static Lib.Math.max.name ∈ tb) (hini : Cond.initialized "java/lang/Math" ∈ tb) (hcode : Cond.code Lib.Math.max.name Lib.Math.max.code 2 (some .int) ∈ tb) (hf : 1 ≤ R.frames) (hlo : (st.map fun v => v.category).sum + 13 ≤ R.locals) (hcs : cells ≤ R.cells ∧ slots ≤ R.slots) (d : decode cc pc = .ok (.invokestatic index, 3)) (k : V l E own cc nL rt R cells slots Z rv res σ (pc + 3) lv (.int (if x < y then y else x) :: st)) : V l E own cc nL rt R cells slots Z rv res σ pc lv (.int y :: .int x :: st) := by
  intro σ' r hr p e s m args below meth c H locs ls F hP hS hl
  exact va_mmax F.1 F.2.1 (F.2.2.1.trans hl.1.symm) F.2.2.2.2.2.1 (F.2.2.2.2.2.2.1 _ hl0) (F.2.2.2.2.2.2.1 _ hst) (F.2.2.2.2.2.2.1 _ hini) (F.2.2.2.2.2.2.1 _ hcode) hf hlo hcs.1 hcs.2 d (k σ' r hr p e s m args below meth c H locs ls F hP hS hl)
theorem v_mmin {index : Nat} {x y : Int32} (hl0 : Cond.methodLink own index Lib.Math.min.name ∈ tb) (hst : Cond.static Lib.Math.min.name ∈ tb) (hini : Cond.initialized "java/lang/Math" ∈ tb) (hcode : Cond.code Lib.Math.min.name Lib.Math.min.code 2 (some .int) ∈ tb) (hf : 1 ≤ R.frames) (hlo : (st.map fun v => v.category).sum + 13 ≤ R.locals) (hcs : cells ≤ R.cells ∧ slots ≤ R.slots) (d : decode cc pc = .ok (.invokestatic index, 3)) (k : V l E own cc nL rt R cells slots Z rv res σ (pc + 3) lv (.int (if y < x then y else x) :: st)) : V l E own cc nL rt R cells slots Z rv res σ pc lv (.int y :: .int x :: st) := by
  intro σ' r hr p e s m args below meth c H locs ls F hP hS hl
  exact va_mmin F.1 F.2.1 (F.2.2.1.trans hl.1.symm) F.2.2.2.2.2.1 (F.2.2.2.2.2.2.1 _ hl0) (F.2.2.2.2.2.2.1 _ hst) (F.2.2.2.2.2.2.1 _ hini) (F.2.2.2.2.2.2.1 _ hcode) hf hlo hcs.1 hcs.2 d (k σ' r hr p e s m args below meth c H locs ls F hP hS hl)

end Rows
