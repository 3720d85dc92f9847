/-! rows of words, as the class reads them -/
def wE (n : Nat) (t : TT) (i : Nat) : Nat := sk isLet n t i
abbrev wOk (n : Nat) (t : TT) (i : Nat) : Prop := 1 ≤ wE n t i - i ∧ wE n t i - i ≤ 8
def wDig (n : Nat) (t : TT) (i : Nat) : Prop := 49 ≤ ch n t (wE n t i) ∧ ch n t (wE n t i) ≤ 57
def wFig (n : Nat) (t : TT) (i : Nat) : Int32 := if 49 ≤ ch n t (wE n t i) ∧ ch n t (wE n t i) ≤ 57 then ch n t (wE n t i) - 48 else 0
def wNx (n : Nat) (t : TT) (i : Nat) : Nat := if 49 ≤ ch n t (wE n t i) ∧ ch n t (wE n t i) ≤ 57 then wE n t i + 1 else wE n t i
def upW (W : Nat → TT) (n : Nat) (t : TT) (c i : Nat) : Nat → TT := fun s j => if j = c then (if s = 0 then nI i else if s = 1 then nI (wE n t i - i) else wFig n t i) else W s j
theorem ch_pos {n : Nat} {t : TT} {i : Nat} (h : 0 ≤ ch n t i) : i < n := by
  unfold ch at h
  by_cases hi : i < n
  · exact hi
  · rw [if_neg hi] at h
    exact absurd h (by decide)
theorem wOk_lt {n : Nat} {t : TT} {i : Nat} (h : wOk n t i) : i < n ∧ wE n t i ≤ n ∧ i < wE n t i ∧ wNx n t i ≤ n ∧ i < wNx n t i := by
  obtain ⟨k1, k2, k3, k4⟩ := sk_all isLet n t i
  obtain ⟨h1, h2⟩ := h
  unfold wE at h1 h2
  have a : i < n ∧ wE n t i ≤ n ∧ i < wE n t i := by
    unfold wE
    have := (k3 i (by omega) (by omega)).1
    omega
  refine ⟨a.1, a.2.1, a.2.2, ?_⟩
  unfold wNx
  by_cases hd : 49 ≤ ch n t (wE n t i) ∧ ch n t (wE n t i) ≤ 57
  · rw [if_pos hd]
    have := ch_pos (show 0 ≤ ch n t (wE n t i) by grind)
    omega
  · rw [if_neg hd]
    omega
def tailR (n : Nat) (t : TT) : Nat → Nat → Nat → (Nat → TT) → Option (Nat × Nat × (Nat → TT))
  | 0, e, c, W => if ch n t e = 58 then none else some (e, c, W)
  | r + 1, e, c, W => if ch n t e = 58 then (if wOk n t (e + 1) ∧ c < 6 then tailR n t r (wNx n t (e + 1)) (c + 1) (upW W n t c (e + 1)) else none) else some (e, c, W)
def rowR (n : Nat) (t : TT) (r i c : Nat) (W : Nat → TT) : Option (Nat × Nat × (Nat → TT)) := if wOk n t i ∧ c < 6 then tailR n t r (wNx n t i) (c + 1) (upW W n t c i) else none
/-- the class holds these words, this place -/
def WC (m : Mem) (c : Nat) (W : Nat → TT) : Prop := m 39 3 = nI c ∧ ∀ s j, s < 3 → j < c → m (40 + s) j = W s j
/-- only the reader's cells changed -/
def UF (m m' : Mem) : Prop := (∀ k, (k < 38 ∨ 42 < k) → m' k = m k) ∧ ∀ j, j ≠ 1 → m' 38 j = m 38 j
theorem UF.rf {m : Mem} : UF m m := ⟨fun _ _ => rfl, fun _ _ => rfl⟩
theorem UF.tr {a b c : Mem} (h : UF a b) (g : UF b c) : UF a c := ⟨fun k hk => (g.1 k hk).trans (h.1 k hk), fun j hj => (g.2 j hj).trans (h.2 j hj)⟩
theorem UF.tc {m m' : Mem} {n : Nat} {t : TT} (f : UF m m') (h : TC m n t) : TC m' n t := by
  unfold TC
  rw [f.1 1 (by decide), f.1 2 (by decide)]
  exact h
theorem UF.p1 {m : Mem} {v : Int32} : UF m (up m 38 1 v) := ⟨fun k hk => up_ne (by omega), fun j hj => by simp [up, hj]⟩
theorem c_readWord {m : Mem} {n : Nat} {t : TT} {N : Nat} (hN : 200 ≤ N) (h : TC m n t) {i c : Nat} {W : Nat → TT} (hp : m 38 1 = nI i) (hi : i ≤ 200) (hw : WC m c W) (hc : c ≤ 6) : (wOk n t i ∧ c < 6 ∧ ∃ m', f_X6_readWord N m = some (m', 1) ∧ m' 38 1 = nI (wNx n t i) ∧ WC m' (c + 1) (upW W n t c i) ∧ UF m m') ∨ (¬ (wOk n t i ∧ c < 6) ∧ ∃ m', f_X6_readWord N m = some (m', 0) ∧ UF m m') := by
  have hn := h.2.2
  obtain ⟨k1, k2, k3, k4⟩ := sk_all isLet n t i
  unfold f_X6_readWord
  rw [hp, c_pastLetters h hN (by omega), bm_some, pk_sub k1, c_within, bm_some, if01]
  by_cases ho : wOk n t i
  · have hl := wOk_lt ho
    rw [if_pos (show (1 : Int32) ≤ nI (sk isLet n t i - i) ∧ nI (sk isLet n t i - i) ≤ 8 from ⟨nI_le (a := 1) ho.1 (by omega), nI_le (b := 8) ho.2 (by decide)⟩), lm_def]
    have f1 : UF m (up m 38 1 (nI (sk isLet n t i))) := UF.p1
    have e1 : up m 38 1 (nI (sk isLet n t i)) 38 1 = nI (sk isLet n t i) := by simp [up]
    have t1 := f1.tc h
    rw [e1, c_byteAt t1 (by omega), bm_some, c_within, bm_some, if01]
    have add : ∀ (M : Mem) (x e : Nat), UF m M → M 38 1 = nI e → WC M c W → ∀ f : Int32, (c < 6 ∧ ∃ m', f_X6_readWord_74 N M (nI i) (nI (sk isLet n t i)) f = some (m', 1) ∧ m' 38 1 = nI e ∧ WC m' (c + 1) (fun s j => if j = c then (if s = 0 then nI i else if s = 1 then nI (wE n t i - i) else f) else W s j) ∧ UF m m') ∨ (¬ c < 6 ∧ ∃ m', f_X6_readWord_74 N M (nI i) (nI (sk isLet n t i)) f = some (m', 0) ∧ UF m m') := by
      intro M x e uf hM wc f
      unfold f_X6_readWord_74 f_X7_add
      rw [pk_sub k1, wc.1, if_neg (nI_pos (by omega))]
      by_cases h6 : c < 6
      · left
        refine ⟨h6, ?_⟩
        have u1 : ∀ v, up M 40 c v 39 3 = nI c := fun v => by rw [up_ne (by decide), wc.1]
        have u2 : ∀ v w, up (up M 40 c v) 41 c w 39 3 = nI c := fun v w => by rw [up_ne (by decide), u1]
        have u3 : ∀ v w u, up (up (up M 40 c v) 41 c w) 42 c u 39 3 = nI c := fun v w u => by rw [up_ne (by decide), u2]
        simp only [if_pos (show nI c < (6 : Int32) from nI_lt (b := 6) h6 (by decide)), gd_of (inR_nI h6 (show 6 < 2 ^ 31 by decide)), ix_nI (show c < 2 ^ 31 by omega), lm_def, u1, u2, u3, bm_some, gd_of (show isB 1 = true from rfl), nI_1]
        refine ⟨_, rfl, ?_, ⟨by simp [up], fun s j hs hj => ?_⟩, ⟨fun k hk => ?_, fun j hj => ?_⟩⟩
        · rw [up_ne (by decide), up_ne (by decide), up_ne (by decide), up_ne (by decide), hM]
        · have := wc.2 s j hs
          rcases (show s = 0 ∨ s = 1 ∨ s = 2 by omega) with e | e | e <;> subst e <;> grind [up, wE]
        · rw [up_ne (by omega), up_ne (by omega), up_ne (by omega), up_ne (by omega), uf.1 k hk]
        · rw [up_ne (by decide), up_ne (by decide), up_ne (by decide), up_ne (by decide), uf.2 j hj]
      · right
        refine ⟨h6, ?_⟩
        rw [if_neg (show ¬ nI c < (6 : Int32) from fun q => absurd ((nI_ltI (b := 6) (by omega) (by decide)).mp q) h6), bm_some, gd_of (show isB 0 = true from rfl)]
        exact ⟨M, rfl, uf⟩
    have wc1 : ∀ M, (∀ k, k ≠ 38 → M k = m k) → WC M c W := fun M hM => ⟨by rw [hM 39 (by decide), hw.1], fun s j hs hj => by rw [hM _ (by omega), hw.2 s j hs hj]⟩
    by_cases hd : 49 ≤ ch n t (wE n t i) ∧ ch n t (wE n t i) ≤ 57
    · rw [if_pos (show 49 ≤ ch n t (sk isLet n t i) ∧ ch n t (sk isLet n t i) ≤ 57 from hd), e1, c_byteAt t1 (by omega), bm_some, lm_def, e1, nI_1]
      have a := add (up (up m 38 1 (nI (sk isLet n t i))) 38 1 (nI (sk isLet n t i + 1))) 0 (sk isLet n t i + 1) (f1.tr UF.p1) (by simp [up]) (wc1 _ (fun k hk => by rw [up_ne hk, up_ne hk])) (ch n t (sk isLet n t i) - 48)
      have en : wNx n t i = sk isLet n t i + 1 := by unfold wNx; rw [if_pos hd]; rfl
      have eu : upW W n t c i = (fun s j => if j = c then (if s = 0 then nI i else if s = 1 then nI (wE n t i - i) else ch n t (sk isLet n t i) - 48) else W s j) := by
        unfold upW wFig
        rw [if_pos hd]; rfl
      rw [en, eu]
      rcases a with ⟨a1, a2⟩ | ⟨a1, a2⟩
      · left; exact ⟨ho, a1, a2⟩
      · right; exact ⟨fun q => a1 q.2, a2⟩
    · rw [if_neg (show ¬ (49 ≤ ch n t (sk isLet n t i) ∧ ch n t (sk isLet n t i) ≤ 57) from hd)]
      have a := add (up m 38 1 (nI (sk isLet n t i))) 0 (sk isLet n t i) f1 e1 (wc1 _ (fun k hk => by rw [up_ne hk])) 0
      have en : wNx n t i = sk isLet n t i := by unfold wNx; rw [if_neg hd]; rfl
      have eu : upW W n t c i = (fun s j => if j = c then (if s = 0 then nI i else if s = 1 then nI (wE n t i - i) else 0) else W s j) := by
        unfold upW wFig
        rw [if_neg hd]
      rw [en, eu]
      rcases a with ⟨a1, a2⟩ | ⟨a1, a2⟩
      · left; exact ⟨ho, a1, a2⟩
      · right; exact ⟨fun q => a1 q.2, a2⟩
  · right
    refine ⟨fun q => ho q.1, ?_⟩
    have ew : wE n t i = sk isLet n t i := rfl
    rw [if_neg (fun q => ho ⟨(nI_leI (a := 1) (by omega) (by omega)).mp q.1, (nI_leI (b := 8) (by omega) (by omega)).mp q.2⟩)]
    exact ⟨m, rfl, UF.rf⟩
theorem c_readWords {n : Nat} {t : TT} {N : Nat} (hN : 200 ≤ N) : ∀ r f m i c W, r ≤ 4 → r < f → TC m n t → m 38 1 = nI i → i ≤ 200 → WC m c W → c ≤ 6 → r ≥ 1 → (∃ e c' W' m', rowR n t (r - 1) i c W = some (e, c', W') ∧ f_X6_readWords_2 N f m (nI (4 - r)) = some (m', 1) ∧ m' 38 1 = nI e ∧ e ≤ n ∧ i < e ∧ c < c' ∧ c' ≤ 6 ∧ ch n t e ≠ 58 ∧ WC m' c' W' ∧ UF m m') ∨ (rowR n t (r - 1) i c W = none ∧ ∃ m', f_X6_readWords_2 N f m (nI (4 - r)) = some (m', 0) ∧ UF m m') := by
  intro r
  induction r with
  | zero => intro f m i c W _ _ _ _ _ _ _ h; omega
  | succ r ih =>
    intro f m i c W hr hf h hp hi hw hc _
    obtain ⟨f, rfl⟩ : ∃ k, f = k + 1 := ⟨f - 1, by omega⟩
    have hn := h.2.2
    show (∃ e c' W' m', rowR n t (r + 1 - 1) i c W = some (e, c', W') ∧ f_X6_readWords_2b N (f_X6_readWords_2 N f) m (nI (4 - (r + 1))) = some (m', 1) ∧ _) ∨ (_ ∧ ∃ m', f_X6_readWords_2b N (f_X6_readWords_2 N f) m (nI (4 - (r + 1))) = some (m', 0) ∧ _)
    unfold f_X6_readWords_2b
    rw [if_neg (show ¬ (4 : Int32) ≤ nI (4 - (r + 1)) from nI_ge (b := 4) (by omega) (by decide)), show r + 1 - 1 = r by omega]
    unfold rowR
    rcases c_readWord hN h hp hi hw hc with ⟨h1, h2, m1, h3, h4, h5, h6⟩ | ⟨h1, m1, h3, h6⟩
    · have hl := wOk_lt h1
      have t1 := h6.tc h
      rw [if_pos ⟨h1, h2⟩, h3, bm_some, if_neg (by decide), h4, c_byteAt t1 (by omega), bm_some]
      by_cases h58 : ch n t (wNx n t i) = 58
      · have hlt := ch_pos (show 0 ≤ ch n t (wNx n t i) by rw [h58]; decide)
        rw [if_pos h58, lm_def, h4, nI_1, nI_1, show 4 - (r + 1) + 1 = 4 - r by omega]
        have uf2 : UF m (up m1 38 1 (nI (wNx n t i + 1))) := h6.tr UF.p1
        cases r with
        | zero =>
          right
          refine ⟨by unfold tailR; rw [if_pos h58], ?_⟩
          obtain ⟨f, rfl⟩ : ∃ k, f = k + 1 := ⟨f - 1, by omega⟩
          show ∃ m', f_X6_readWords_2b N (f_X6_readWords_2 N f) _ (nI (4 - 0)) = _ ∧ _
          unfold f_X6_readWords_2b
          rw [if_pos (by decide)]
          exact ⟨_, rfl, uf2⟩
        | succ r =>
          have := ih f (up m1 38 1 (nI (wNx n t i + 1))) (wNx n t i + 1) (c + 1) (upW W n t c i) (by omega) (by omega) (uf2.tc h) (by simp [up]) (by omega) ⟨by rw [up_ne (by decide), h5.1], fun s j hs hj => by rw [up_ne (by omega), h5.2 s j hs hj]⟩ (by omega) (by omega)
          unfold rowR at this
          unfold tailR
          rw [if_pos h58]
          rw [show r + 1 - 1 = r by omega] at this
          rcases this with ⟨e, c', W', m', a1, a2, a3, a4, a5, a6, a7, a8, a9, a10⟩ | ⟨a1, m', a2, a3⟩
          · left; exact ⟨e, c', W', m', a1, a2, a3, a4, by omega, by omega, a7, a8, a9, uf2.tr a10⟩
          · right; exact ⟨a1, m', a2, uf2.tr a3⟩
      · left
        rw [if_neg h58]
        refine ⟨wNx n t i, c + 1, upW W n t c i, m1, ?_, rfl, h4, by omega, by omega, by omega, by omega, h58, h5, h6⟩
        cases r with
        | zero => unfold tailR; rw [if_neg h58]
        | succ r => unfold tailR; rw [if_neg h58]
    · right
      rw [if_neg h1, h3, bm_some, if_pos rfl]
      exact ⟨rfl, m1, rfl, h6⟩
