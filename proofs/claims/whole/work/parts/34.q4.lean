/-! taking one out of a row -/
def tRem (T : TT) (c o i : Nat) : TT := fun j => if j = c then T c - 1 else if o + i ≤ j ∧ j + 1 < o + ix (T c) then T (j + 1) else T j
theorem loopFr {α : Type} (s : Nat) (F : Nat → Mem → Int32 → Option α) (B : Nat) (fin : Mem → Option α) (J : Nat → Mem) (hs : ∀ f i, s ≤ i → i < B → F (f + 1) (J i) (nI i) = F f (J (i + 1)) (nI (i + 1))) (he : ∀ f, F (f + 1) (J B) (nI B) = fin (J B)) : ∀ d i f, s ≤ i → i + d = B → d < f → F f (J i) (nI i) = fin (J B) := by
  intro d
  induction d with
  | zero =>
    intro i f h0 h1 h2
    obtain ⟨f, rfl⟩ : ∃ k, f = k + 1 := ⟨f - 1, by omega⟩
    rw [show i = B by omega]
    exact he f
  | succ d ih =>
    intro i f h0 h1 h2
    obtain ⟨f, rfl⟩ : ∃ k, f = k + 1 := ⟨f - 1, by omega⟩
    rw [hs f i h0 (by omega)]
    exact ih (i + 1) f (by omega) (by omega) (by omega)
theorem c_removeAt (N : Nat) (hN : 60 ≤ N) (m : Mem) (k a i L : Nat) (hL : L < 9) (e3 : ln (k + 1) = L) (ha : m k 1 = nI a) (haL : a ≤ L) (hi : i < a) : ∃ m', f_X2_removeAt N k m (nI i) = some (m', m (k + 1) i) ∧ m' k 1 = nI (a - 1) ∧ (∀ j, m' (k + 1) j = if i ≤ j ∧ j + 1 < a then m (k + 1) (j + 1) else m (k + 1) j) ∧ (∀ c, c ≠ k → c ≠ k + 1 → m' c = m c) ∧ ∀ j, j ≠ 1 → m' k j = m k j := by
  have e1 : nI a - 1 = nI (a - 1) := by rw [show (1 : Int32) = nI 1 from rfl, pk_sub (by omega)]
  unfold f_X2_removeAt
  rw [ha, e1, c_within, bm_some, if01, if_pos ⟨nI_le (b := i) (a := 0) (by omega) (by omega), nI_le (by omega) (by omega)⟩]
  have hat : f_X2_at k m (nI i) = some (m, m (k + 1) i) := by
    unfold f_X2_at
    rw [if_neg (nI_pos (by omega)), ha, if_neg (nI_ge hi (by omega)), e3, lit, if_neg (nI_ge (by omega) (by omega)), gd_of (inR_nI (by omega) (by omega)), ix_nI (by omega)]
  rw [hat, bm_some, nI_1]
  have h := loopFr (i + 1) (fun f m' x => f_X2_removeAt_28 N k f m' (m (k + 1) i) x) a (fun m' => some (up m' k 1 (nI (a - 1)), m (k + 1) i)) (fun x => fun cc j => if cc = k + 1 ∧ i ≤ j ∧ j + 1 < x then m (k + 1) (j + 1) else m cc j) ?_ ?_ (a - (i + 1)) (i + 1) N (by omega) (by omega) (by omega)
  · have e : (fun cc j => if cc = k + 1 ∧ i ≤ j ∧ j + 1 < i + 1 then m (k + 1) (j + 1) else m cc j) = m := by
      funext cc j
      rw [if_neg (by omega)]
    simp only [e] at h
    refine ⟨_, h, ?_, fun j => ?_, fun c h1 h2 => ?_, fun j hj => ?_⟩
    · simp [up]
    · simp [up]
    · funext j; simp [up, h1, h2]
    · simp [up, hj]
  · intro f x h0 hx
    show f_X2_removeAt_28b N k (f_X2_removeAt_28 N k f) _ _ _ = _
    unfold f_X2_removeAt_28b
    · have e2 : nI x - 1 = nI (x - 1) := by rw [show (1 : Int32) = nI 1 from rfl, pk_sub (by omega)]
      simp only [show ¬ (k = k + 1) by omega, false_and, if_false, ha, e3, lit, if_neg (nI_ge hx (show a < 2 ^ 31 by omega)), if_neg (nI_ge (show x < L by omega) (show L < 2 ^ 31 by omega)), e2, gd_of (inR_nI (show x < L by omega) (show L < 2 ^ 31 by omega)), gd_of (inR_nI (show x - 1 < L by omega) (show L < 2 ^ 31 by omega)), ix_nI (show x < 2 ^ 31 by omega), ix_nI (show x - 1 < 2 ^ 31 by omega), lm_def, nI_1]
      congr 2
      funext cc j
      simp only [up]
      by_cases hc : cc = k + 1
      · subst hc
        by_cases hj : j = x - 1
        · subst hj
          rw [if_pos ⟨rfl, rfl⟩, if_neg (by omega), if_pos (by omega), show x - 1 + 1 = x by omega]
        · rw [if_neg (by omega)]
          by_cases h2 : i ≤ j ∧ j + 1 < x
          · rw [if_pos (by omega), if_pos (by omega)]
          · rw [if_neg (by omega), if_neg (by omega)]
      · rw [if_neg (by omega), if_neg (by omega), if_neg (by omega)]
  · intro f
    show f_X2_removeAt_28b N k (f_X2_removeAt_28 N k f) _ _ _ = _
    unfold f_X2_removeAt_28b f_X2_removeAt_65
    simp only [show ¬ (k = k + 1) by omega, false_and, if_false, ha, if_pos (nI_le (Nat.le_refl a) (show a < 2 ^ 31 by omega)), lm_def, e1]
theorem m_removeAt (N : Nat) (hN : 60 ≤ N) (m : Mem) (c o a i : Nat) (ha : m 112 c = nI a) (hi : i < a) (hc : c < o) (ho : o < 300) (ha2 : a < 9) : f_X9_removeAt N m (nI c) (nI o) (nI i) = some (setC m 112 (tRem (m 112) c o i), ()) := by
  have e1 : nI a - 1 = nI (a - 1) := by rw [show (1 : Int32) = nI 1 from rfl, pk_sub (by omega)]
  unfold f_X9_removeAt
  rw [gd_of (inR_nI (by omega) (by decide)), gd_of (inR_nI (by omega) (by decide)), ix_nI (by omega), lm_def, ha, e1]
  have h := loopFr i (fun f m' x => f_X9_removeAt_13 N f m' (nI c) (nI o) x) (a - 1) (fun m' => some (m', ())) (fun x => setC m 112 (fun j => if j = c then nI (a - 1) else if o + i ≤ j ∧ j < o + x then m 112 (j + 1) else m 112 j)) ?_ ?_ (a - 1 - i) i N (by omega) (by omega) (by omega)
  · have e : setC m 112 (fun j => if j = c then nI (a - 1) else if o + i ≤ j ∧ j < o + i then m 112 (j + 1) else m 112 j) = up m 112 c (nI (a - 1)) := by
      rw [up_setC]
      congr 1
      funext j
      simp only [upd]
      by_cases hj : j = c
      · rw [if_pos hj, if_pos hj]
      · rw [if_neg hj, if_neg hj, if_neg (by omega)]
    simp only [e] at h
    rw [h]
    congr 3
    funext j
    simp only [tRem, ha, ix_nI (show a < 2 ^ 31 by omega), e1]
    by_cases hj : j = c
    · rw [if_pos hj, if_pos hj]
    · rw [if_neg hj, if_neg hj]
      by_cases h2 : o + i ≤ j ∧ j + 1 < o + a
      · rw [if_pos h2, if_pos (by omega)]
      · rw [if_neg h2, if_neg (by omega)]
  · intro f x h0 hx
    show f_X9_removeAt_13b N (f_X9_removeAt_13 N f) _ _ _ _ = _
    unfold f_X9_removeAt_13b
    rw [nI_add, nI_1, gd_of (inR_nI (by omega) (by decide)), ix_nI (show c < 2 ^ 31 by omega), setC_at, if_pos rfl, if_neg (nI_ge hx (by omega)), gd_of (inR_nI (by omega) (by decide)), gd_of (inR_nI (by omega) (by decide)), lm_def, ix_nI (by omega), ix_nI (by omega), nI_1, up_setC, setC_at, setC_setC, if_neg (by omega), if_neg (by omega)]
    congr 2
    funext j
    simp only [upd]
    by_cases hj : j = o + x
    · subst hj
      rw [if_pos rfl, if_neg (by omega), if_pos (by omega)]
    · rw [if_neg hj]
      by_cases hj : j = c
      · rw [if_pos hj, if_pos hj]
      · rw [if_neg hj, if_neg hj]
        by_cases h2 : o + i ≤ j ∧ j < o + x
        · rw [if_pos h2, if_pos (by omega)]
        · rw [if_neg h2, if_neg (by omega)]
  · intro f
    show f_X9_removeAt_13b N (f_X9_removeAt_13 N f) _ _ _ _ = _
    unfold f_X9_removeAt_13b
    rw [gd_of (inR_nI (by omega) (by decide)), ix_nI (by omega), setC_at, if_pos rfl, if_pos (nI_le (Nat.le_refl _) (by omega))]
theorem SS_rem {T : TT} {c o i a L : Nat} (ha : T c = nI a) (hi : i < a) (haL : a ≤ L) (hc : c < o) (hc0 : 0 < c) (ho : o + L ≤ 27) : SS T (tRem T c o i) := by
  have e : ix (T c) = a := by rw [ha, ix_nI (by omega)]
  refine ⟨?_, fun n w _ _ => ?_⟩
  · simp only [tRem, e]
    rw [if_neg (by omega), if_neg (by omega)]
  · simp only [tRem, e]
    rw [if_neg (by omega), if_neg (by omega)]
theorem ID_rem {T : TT} {c o i a L : Nat} (d : ID T) (ha : T c = nI a) (hi : i < a) (haL : a ≤ L) (h : (c = 9 ∧ o = 13 ∧ L = 4) ∨ (c = 11 ∧ o = 17 ∧ L = 6) ∨ (c = 12 ∧ o = 23 ∧ L = 4)) : ID (tRem T c o i) := by
  have hL : L ≤ 6 := by omega
  have e : ix (T c) = a := by rw [ha, ix_nI (by omega)]
  have e1 : nI a - 1 = nI (a - 1) := by rw [show (1 : Int32) = nI 1 from rfl, pk_sub (by omega)]
  have b : 0 ≤ nI (a - 1) ∧ nI (a - 1) ≤ nI L := ⟨nI_le (a := 0) (by omega) (by omega), nI_le (by omega) (by omega)⟩
  obtain ⟨d1, d2, d3, d4, d5⟩ := d
  have g : ∀ j, j < 13 → j ≠ c → tRem T c o i j = T j := fun j h1 h2 => by simp only [tRem, e]; rw [if_neg h2, if_neg (by omega)]
  have g2 : ∀ j, 27 ≤ j → tRem T c o i j = T j := fun j h1 => by simp only [tRem, e]; rw [if_neg (by omega), if_neg (by omega)]
  have g3 : tRem T c o i c = nI (a - 1) := by simp only [tRem, if_true]; rw [ha, e1]
  refine ⟨?_, ?_, ?_, ?_, fun n h1 h2 => ?_⟩
  · rcases h with ⟨rfl, -, rfl⟩ | ⟨rfl, -, rfl⟩ | ⟨rfl, -, rfl⟩
    · rw [g3]; exact b
    · rw [g 9 (by decide) (by decide)]; exact d1
    · rw [g 9 (by decide) (by decide)]; exact d1
  · rcases h with ⟨rfl, -, rfl⟩ | ⟨rfl, -, rfl⟩ | ⟨rfl, -, rfl⟩
    · rw [g 11 (by decide) (by decide)]; exact d2
    · rw [g3]; exact b
    · rw [g 11 (by decide) (by decide)]; exact d2
  · rcases h with ⟨rfl, -, rfl⟩ | ⟨rfl, -, rfl⟩ | ⟨rfl, -, rfl⟩
    · rw [g 12 (by decide) (by decide)]; exact d3
    · rw [g 12 (by decide) (by decide)]; exact d3
    · rw [g3]; exact b
  · rw [g 10 (by decide) (by omega)]; exact d4
  · rw [g2 _ (by omega)] at h2
    rw [g2 _ (by omega), g2 _ (by omega), g2 _ (by omega), g2 _ (by omega)]
    exact d5 n h1 h2
