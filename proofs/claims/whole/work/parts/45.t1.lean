/-! behind the header, as the class reads it -/
def isE (c : Int32) : Prop := c = 59 ∨ c = -1
abbrev spR (n : Nat) (t : TT) (k a b : Nat) : Prop := b - a = strN.getD k 0 ∧ ∀ j, j < strN.getD k 0 → cap (ch n t (a + j)) = strCh k j
theorem c_spells {m : Mem} {n : Nat} {t : TT} {N : Nat} (hN : 200 ≤ N) (h : TC m n t) {k a b : Nat} (hk : k < 9) (hab : a ≤ b) (hb : b ≤ 300) : f_X4_spells N k m (nI a) (nI b) = some (m, if spR n t k a b then 1 else 0) := by
  have hL : strLen k = nI (strN.getD k 0) ∧ strN.getD k 0 ≤ 3 := by
    have g : ∀ k, k < 9 → strLen k = nI (strN.getD k 0) ∧ strN.getD k 0 ≤ 3 := by decide
    exact g k hk
  unfold f_X4_spells
  rw [pk_sub hab, hL.1]
  have hl3 := hL.2
  by_cases he : b - a = (strN.getD k 0)
  · rw [if_pos (by rw [he])]
    have g : ∀ d x f, x + d = (strN.getD k 0) → d < f → f_X4_spells_15 N k f m (nI a) (nI x) = some (m, if ∀ j, j < (strN.getD k 0) → x ≤ j → cap (ch n t (a + j)) = strCh k j then 1 else 0) := by
      intro d
      induction d with
      | zero =>
        intro x f h1 h2
        obtain ⟨f, rfl⟩ : ∃ k, f = k + 1 := ⟨f - 1, by omega⟩
        show f_X4_spells_15b N k (f_X4_spells_15 N k f) m (nI a) (nI x) = _
        unfold f_X4_spells_15b
        rw [hL.1, if_pos (nI_le (by omega) (by omega)), if_pos (fun j h1 h2 => by omega)]
      | succ d ih =>
        intro x f h1 h2
        obtain ⟨f, rfl⟩ : ∃ k, f = k + 1 := ⟨f - 1, by omega⟩
        show f_X4_spells_15b N k (f_X4_spells_15 N k f) m (nI a) (nI x) = _
        unfold f_X4_spells_15b
        rw [hL.1, if_neg (nI_ge (by omega) (by omega)), nI_add, c_capitalAt h (by omega), bm_some, gd_of (inR_nI (by omega) (by omega)), ix_nI (by omega)]
        by_cases hq : cap (ch n t (a + x)) = strCh k x
        · rw [if_pos hq, nI_1, ih (x + 1) f (by omega) (by omega)]
          by_cases hh : ∀ j, j < (strN.getD k 0) → x + 1 ≤ j → cap (ch n t (a + j)) = strCh k j
          · rw [if_pos hh, if_pos (fun j h2 h1 => by
              rcases Nat.eq_or_lt_of_le h1 with e | e
              · rw [← e]; exact hq
              · exact hh j h2 e)]
          · rw [if_neg hh, if_neg (fun q => hh (fun j h2 h1 => q j h2 (by omega)))]
        · rw [if_neg hq, if_neg (fun q => hq (q x (by omega) (by omega)))]
    have := g (strN.getD k 0) 0 N (by omega) (by omega)
    rw [show f_X4_spells_15 N k N m (nI a) 0 = _ from this]
    by_cases hh : ∀ j, j < (strN.getD k 0) → cap (ch n t (a + j)) = strCh k j
    · rw [if_pos (fun j h _ => hh j h), if_pos ⟨he, hh⟩]
    · rw [if_neg (fun q => hh (fun j h => q j h (by omega))), if_neg (fun q => hh q.2)]
  · rw [if_neg (fun q => he ((nI_eq (by omega) (by omega)).mp q)), if_neg (fun q => he q.1)]
def fgR (n : Nat) (t : TT) : Nat → Nat → Int32 → Nat → Nat × Int32 × Nat
  | 0, k, v, c => (k, v, c)
  | r + 1, k, v, c => if isFig (ch n t k) = true then fgR n t r (k + 1) (10 * v + ch n t k - 48) (c + 1) else (k, v, c)
def numF (n : Nat) (t : TT) (sg : Int32) (x : Nat × Int32 × Nat) : Option (Nat × Int32) := if x.2.2 = 0 then none else if cap (ch n t x.1) = 75 then some (x.1 + 1, if sg = 45 then -(1000 * x.2.1) else 1000 * x.2.1) else some (x.1, if sg = 45 then -x.2.1 else x.2.1)
def numR (n : Nat) (t : TT) (k : Nat) : Option (Nat × Int32) := numF n t (ch n t k) (fgR n t 6 (if ch n t k = 43 ∨ ch n t k = 45 then k + 1 else k) 0 0)
def valR (n : Nat) (t : TT) (k : Nat) : Option (Nat × Int32) := if isLet (ch n t k) = true then (if spR n t 7 k (sk isLet n t k) then some (sk isLet n t k, 1) else if spR n t 8 k (sk isLet n t k) then some (sk isLet n t k, 0) else none) else numR n t k
/-- cell 38 apart from slots 1, 7, 8, and all else, stays -/
def BF (m m' : Mem) : Prop := (∀ k, k ≠ 38 → m' k = m k) ∧ ∀ j, j ≠ 1 → j ≠ 7 → j ≠ 8 → m' 38 j = m 38 j
theorem BF.rf {m : Mem} : BF m m := ⟨fun _ _ => rfl, fun _ _ _ _ => rfl⟩
theorem BF.tr {a b c : Mem} (h : BF a b) (g : BF b c) : BF a c := ⟨fun k hk => (g.1 k hk).trans (h.1 k hk), fun j h1 h2 h3 => (g.2 j h1 h2 h3).trans (h.2 j h1 h2 h3)⟩
theorem BF.u {m : Mem} {j : Nat} {v : Int32} (hj : j = 1 ∨ j = 7 ∨ j = 8) : BF m (up m 38 j v) := ⟨fun k hk => up_ne hk, fun i h1 h2 h3 => by simp only [up]; rw [if_neg (by omega)]⟩
theorem BF.tc {m m' : Mem} {n : Nat} {t : TT} (f : BF m m') (h : TC m n t) : TC m' n t := by
  unfold TC
  rw [f.1 1 (by decide), f.1 2 (by decide)]
  exact h
theorem c_num36 {n : Nat} {t : TT} {N : Nat} (sg : Int32) : ∀ r f m k v c, r + c = 6 → r < f → TC m n t → m 38 1 = nI k → k ≤ 200 → ∃ m', f_X6_readNumber_36 N f m sg v (nI c) = f_X6_readNumber_90 N m' sg (fgR n t r k v c).2.1 (nI (fgR n t r k v c).2.2) ∧ m' 38 1 = nI (fgR n t r k v c).1 ∧ k ≤ (fgR n t r k v c).1 ∧ (fgR n t r k v c).1 ≤ k + r ∧ ((fgR n t r k v c).1 ≤ n ∨ (fgR n t r k v c).1 = k) ∧ (fgR n t r k v c).2.2 ≤ 6 ∧ m' 38 7 = m 38 7 ∧ BF m m' := by
  intro r
  induction r with
  | zero =>
    intro f m k v c h1 h2 h hp hk
    obtain ⟨f, rfl⟩ : ∃ k, f = k + 1 := ⟨f - 1, by omega⟩
    refine ⟨m, ?_, hp, Nat.le_refl k, Nat.le_refl k, .inr rfl, by show c ≤ 6; omega, rfl, BF.rf⟩
    show f_X6_readNumber_36b N (f_X6_readNumber_36 N f) m sg v (nI c) = _
    unfold f_X6_readNumber_36b
    rw [show c = 6 by omega, if_pos (by decide)]
    rfl
  | succ r ih =>
    intro f m k v c h1 h2 h hp hk
    obtain ⟨f, rfl⟩ : ∃ k, f = k + 1 := ⟨f - 1, by omega⟩
    have hn := h.2.2
    show ∃ m', f_X6_readNumber_36b N (f_X6_readNumber_36 N f) m sg v (nI c) = _ ∧ _
    unfold f_X6_readNumber_36b fgR
    rw [if_neg (show ¬ (6 : Int32) ≤ nI c from nI_ge (b := 6) (by omega) (by decide)), hp, c_byteAt h (by omega), bm_some, c_isFigure, bm_some, if01]
    by_cases hf : isFig (ch n t k) = true
    · rw [if_pos hf, if_pos hf, hp, c_byteAt h (by omega), bm_some, lm_def, hp, nI_1, nI_1]
      have hk2 := ch_pos (n := n) (t := t) (i := k) (by unfold isFig at hf; grind)
      have b1 : BF m (up m 38 1 (nI (k + 1))) := BF.u (by omega)
      obtain ⟨m', a1, a2, a3, a4, a5, a6, a7, a8⟩ := ih f (up m 38 1 (nI (k + 1))) (k + 1) (10 * v + ch n t k - 48) (c + 1) (by omega) (by omega) (b1.tc h) (by simp [up]) (by omega)
      exact ⟨m', a1, a2, by omega, by omega, by omega, a6, by rw [a7]; simp [up], b1.tr a8⟩
    · rw [if_neg hf, if_neg hf]
      exact ⟨m, rfl, hp, Nat.le_refl k, by omega, .inr rfl, by show c ≤ 6; omega, rfl, BF.rf⟩
theorem c_value {m : Mem} {n : Nat} {t : TT} {N : Nat} (hN : 200 ≤ N) (h : TC m n t) {k : Nat} (hp : m 38 1 = nI k) (hk : k < n) : (∃ p v m', valR n t k = some (p, v) ∧ f_X6_readValue N m = some (m', 1) ∧ m' 38 1 = nI p ∧ m' 38 8 = v ∧ k ≤ p ∧ p ≤ n ∧ m' 38 7 = m 38 7 ∧ BF m m') ∨ (valR n t k = none ∧ ∃ m', f_X6_readValue N m = some (m', 0) ∧ BF m m') := by
  have hn := h.2.2
  unfold f_X6_readValue valR
  rw [hp, c_byteAt h (by omega), bm_some, c_isLetter, bm_some, if01]
  by_cases hl : isLet (ch n t k) = true
  · rw [if_pos hl, if_pos hl]
    obtain ⟨k1, k2, k3, k4⟩ := sk_all isLet n t k
    unfold f_X6_readSwitch
    rw [hp, c_pastLetters h hN (by omega), bm_some, lm_def]
    have b1 : BF m (up m 38 1 (nI (sk isLet n t k))) := BF.u (by omega)
    have t1 := b1.tc h
    have e1 : up m 38 1 (nI (sk isLet n t k)) 38 1 = nI (sk isLet n t k) := by simp [up]
    have e7 : ∀ v, up (up m 38 1 (nI (sk isLet n t k))) 38 8 v 38 7 = m 38 7 := fun v => by simp [up]
    rw [e1, c_spells hN t1 (by decide) (by omega) (by omega), bm_some, if01]
    unfold f_X6_readSwitch_36 f_X6_readSwitch_57
    have e18 : ∀ v, up (up m 38 1 (nI (sk isLet n t k))) 38 8 v 38 1 = nI (sk isLet n t k) := fun v => by simp [up]
    have e88 : ∀ v, up (up m 38 1 (nI (sk isLet n t k))) 38 8 v 38 8 = v := fun v => by simp [up]
    have b2 : ∀ v, BF m (up (up m 38 1 (nI (sk isLet n t k))) 38 8 v) := fun v => b1.tr (BF.u (by omega))
    by_cases ho : spR n t 7 k (sk isLet n t k)
    · left
      simp only [if_pos ho, lm_def, if_neg (show ¬ (1 : Int32) = 0 by decide), bm_some, gd_of (show isB 1 = true from rfl)]
      exact ⟨_, _, _, rfl, rfl, e18 _, e88 _, k1, by omega, e7 _, b2 _⟩
    · simp only [if_neg ho, lm_def, if_true, e18, c_spells hN ((b2 0).tc h) (show 8 < 9 by decide) k1 (show sk isLet n t k ≤ 300 by omega), bm_some, if01]
      by_cases hf : spR n t 8 k (sk isLet n t k)
      · left
        simp only [if_pos hf, bm_some, gd_of (show isB 1 = true from rfl)]
        exact ⟨_, _, _, rfl, rfl, e18 _, e88 _, k1, by omega, e7 _, b2 _⟩
      · right
        simp only [if_neg hf, bm_some, gd_of (show isB 0 = true from rfl)]
        exact ⟨trivial, _, rfl, b2 _⟩
  · rw [if_neg hl, if_neg hl]
    unfold f_X6_readNumber f_X6_readNumber_21 f_X6_readNumber_31 numR
    rw [hp, c_byteAt h (by omega), bm_some, lm_def, hp, nI_1]
    generalize hsg : ch n t k = sg
    have key : ∀ (M : Mem) (k1 : Nat), (k1 = k ∨ k1 = k + 1) → BF m M → M 38 1 = nI k1 → M 38 7 = m 38 7 → (∃ p v m', numF n t sg (fgR n t 6 k1 0 0) = some (p, v) ∧ bm (f_X6_readNumber_36 N N M sg 0 0) (fun m3 r3 => gd (isB r3) (some (m3, r3))) = some (m', 1) ∧ m' 38 1 = nI p ∧ m' 38 8 = v ∧ k ≤ p ∧ p ≤ n ∧ m' 38 7 = m 38 7 ∧ BF m m') ∨ (numF n t sg (fgR n t 6 k1 0 0) = none ∧ ∃ m', bm (f_X6_readNumber_36 N N M sg 0 0) (fun m3 r3 => gd (isB r3) (some (m3, r3))) = some (m', 0) ∧ BF m m') := by
      intro M k1 hk1 bf hM hM7
      obtain ⟨m1, a1, a2, a3, a4, a5, a6, a7, a8⟩ := c_num36 (N := N) sg 6 N M k1 0 0 (by omega) (by omega) (bf.tc h) hM (by omega)
      rw [show f_X6_readNumber_36 N N M sg 0 0 = _ from a1]
      generalize fgR n t 6 k1 0 0 = X at *
      obtain ⟨k2, v, c⟩ := X
      simp only at a2 a3 a4 a5 a6 ⊢
      have t1 := (bf.tr a8).tc h
      unfold f_X6_readNumber_90 f_X6_readNumber_119 f_X6_readNumber_132 numF
      rw [a2, c_capitalAt t1 (by omega), bm_some, lm_def, lm_def]
      simp only [lm_def, a2, nI_1]
      have bb : BF m m1 := bf.tr a8
      have b1 : ∀ v, BF m (up m1 38 8 v) := fun v => bb.tr (BF.u (by omega))
      have b2 : ∀ w v, BF m (up (up m1 38 1 w) 38 8 v) := fun w v => (bb.tr (BF.u (by omega))).tr (BF.u (by omega))
      by_cases hc : c = 0
      · right
        subst hc
        refine ⟨by simp, ?_⟩
        simp only [if_pos (show nI 0 ≤ 0 by decide)]
        by_cases hK : cap (ch n t k2) = 75 <;> by_cases hm : sg = 45 <;> simp only [hK, hm, if_true, if_false, bm_some, gd_of (show isB 0 = true from rfl)]
        · exact ⟨_, rfl, b2 _ _⟩
        · exact ⟨_, rfl, b2 _ _⟩
        · exact ⟨_, rfl, b1 _⟩
        · exact ⟨_, rfl, b1 _⟩
      · left
        have hcn : ¬ nI c ≤ 0 := nI_ge (b := c) (a := 0) (by omega) (by omega)
        simp only [if_neg hc, if_neg hcn]
        by_cases hK : cap (ch n t k2) = 75
        · have := ch_pos (n := n) (t := t) (i := k2) (by unfold cap at hK; grind)
          by_cases hm : sg = 45 <;> simp only [hK, hm, if_true, if_false, bm_some, gd_of (show isB 1 = true from rfl)]
          · exact ⟨_, _, _, rfl, rfl, by simp [up], by simp [up], by omega, by omega, by simp [up, a7, hM7], b2 _ _⟩
          · exact ⟨_, _, _, rfl, rfl, by simp [up], by simp [up], by omega, by omega, by simp [up, a7, hM7], b2 _ _⟩
        · by_cases hm : sg = 45 <;> simp only [hK, hm, if_true, if_false, bm_some, gd_of (show isB 1 = true from rfl)]
          · exact ⟨_, _, _, rfl, rfl, by simp [up, a2], by simp [up], by omega, by omega, by simp [up, a7, hM7], b1 _⟩
          · exact ⟨_, _, _, rfl, rfl, by simp [up, a2], by simp [up], by omega, by omega, by simp [up, a7, hM7], b1 _⟩
    have u1 : up m 38 1 (nI (k + 1)) 38 1 = nI (k + 1) ∧ up m 38 1 (nI (k + 1)) 38 7 = m 38 7 := by simp [up]
    by_cases h43 : sg = 43
    · simp only [h43, if_true, true_or]
      subst h43
      exact key _ _ (.inr rfl) (BF.u (by omega)) u1.1 u1.2
    · by_cases h45 : sg = 45
      · simp only [h45, if_neg (show ¬ (45 : Int32) = 43 by decide), if_true, or_true]
        subst h45
        exact key _ _ (.inr rfl) (BF.u (by omega)) u1.1 u1.2
      · simp only [h43, h45, if_false, or_self]
        exact key _ _ (.inl rfl) BF.rf hp rfl
