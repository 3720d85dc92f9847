def b2i (q : Bool) : Int32 := if q = true then 1 else 0
abbrev isEb (c : Int32) : Bool := decide (c = 59 ∨ c = -1)
def bhR (n : Nat) (t : TT) (h : Nat) : Option (Nat × Option Int32) := if isEb (ch n t (sk isBlk n t h)) = true then some (sk isBlk n t h, none) else if sk isBlk n t h = h then none else match valR n t (sk isBlk n t h) with
  | none => none
  | some (p, v) => if isEb (ch n t (sk isBlk n t p)) = true then some (sk isBlk n t p, some v) else none
theorem c_isUnitEnd {m : Mem} {n : Nat} {t : TT} (h : TC m n t) {i : Nat} (hp : m 38 1 = nI i) (hi : i < 1000) : f_X6_isUnitEnd m = some (m, if isEb (ch n t i) = true then 1 else 0) := by
  unfold f_X6_isUnitEnd f_X6_isUnitEnd_20
  rw [hp, c_byteAt h hi, bm_some]
  unfold isEb
  grind
def OV (m : Mem) (ov : Option Int32) : Prop := match ov with
  | none => m 38 7 = 0
  | some v => m 38 7 = 1 ∧ m 38 8 = v
theorem c_bh {m : Mem} {n : Nat} {t : TT} {N : Nat} (hN : 200 ≤ N) (h : TC m n t) {k : Nat} (hp : m 38 1 = nI k) (hk : k ≤ n) : (∃ z ov m', bhR n t k = some (z, ov) ∧ f_X6_readBehindHeader N m = some (m', 1) ∧ m' 38 1 = nI z ∧ OV m' ov ∧ k ≤ z ∧ z ≤ n ∧ isEb (ch n t z) = true ∧ BF m m') ∨ (bhR n t k = none ∧ ∃ m', f_X6_readBehindHeader N m = some (m', 0) ∧ BF m m') := by
  have hn := h.2.2
  obtain ⟨k1, k2, k3, k4⟩ := sk_all isBlk n t k
  unfold f_X6_readBehindHeader f_X6_readBehindHeader_31 bhR
  rw [hp, c_pastBlanks h hN (by omega), bm_some, lm_def]
  have b1 : BF m (up m 38 1 (nI (sk isBlk n t k))) := BF.u (by omega)
  have t1 := b1.tc h
  rw [c_isUnitEnd t1 (i := sk isBlk n t k) (by simp [up]) (by omega), bm_some, if01]
  have g1 : ∀ v, up (up m 38 1 (nI (sk isBlk n t k))) 38 7 v 38 7 = v := fun v => by simp [up]
  have g2 : ∀ v, up (up m 38 1 (nI (sk isBlk n t k))) 38 7 v 38 1 = nI (sk isBlk n t k) := fun v => by simp [up]
  have b2 : ∀ v, BF m (up (up m 38 1 (nI (sk isBlk n t k))) 38 7 v) := fun v => b1.tr (BF.u (by omega))
  by_cases he : isEb (ch n t (sk isBlk n t k)) = true
  · left
    simp only [if_pos he, gd_of (show isB 0 = true from rfl), lm_def, g1, if_true]
    exact ⟨_, _, _, rfl, rfl, g2 _, g1 _, k1, by omega, he, b2 _⟩
  · simp only [if_neg he, gd_of (show isB 1 = true from rfl), lm_def, g1, g2, if_neg (show ¬ (1 : Int32) = 0 by decide)]
    by_cases hq : sk isBlk n t k = k
    · right
      simp only [hq, if_true]
      refine ⟨trivial, _, rfl, ?_⟩
      have := b2 1
      rw [hq] at this
      exact this
    · have hne : ¬ nI (sk isBlk n t k) = nI k := fun q => hq ((nI_eq (by omega) (by omega)).mp q)
      simp only [if_neg hq, if_neg hne]
      have hlt : sk isBlk n t k < n := by
        rcases Nat.lt_or_ge (sk isBlk n t k) n with q | q
        · exact q
        · exfalso
          apply he
          unfold isEb ch
          rw [if_neg (by omega)]
          decide
      rcases c_value hN ((b2 1).tc h) (g2 1) hlt with ⟨p, v, m2, a1, a2, a3, a4, a5, a6, a7, a8⟩ | ⟨a1, m2, a2, a3⟩
      · rw [a2, bm_some, if_neg (by decide), a3, a1]
        have t2 := ((b2 1).tr a8).tc h
        obtain ⟨j1, j2, j3, j4⟩ := sk_all isBlk n t p
        rw [c_pastBlanks t2 hN (by omega), bm_some]
        have b3 : BF m2 (up m2 38 1 (nI (sk isBlk n t p))) := BF.u (by omega)
        rw [c_isUnitEnd (b3.tc t2) (i := sk isBlk n t p) (by simp [up]) (by omega), bm_some]
        by_cases hz : isEb (ch n t (sk isBlk n t p)) = true
        · left
          simp only [if_pos hz, gd_of (show isB 1 = true from rfl)]
          refine ⟨_, _, _, rfl, rfl, by simp [up], ⟨?_, ?_⟩, by omega, by omega, hz, ((b2 1).tr a8).tr b3⟩
          · simp [up]
            rw [a7]
            simp [up]
          · simp [up]
            exact a4
        · right
          simp only [if_neg hz, gd_of (show isB 0 = true from rfl)]
          exact ⟨trivial, _, rfl, ((b2 1).tr a8).tr b3⟩
      · right
        rw [a2, bm_some, if_pos rfl, a1]
        exact ⟨rfl, m2, rfl, (b2 1).tr a3⟩
def hdR (n : Nat) (t : TT) (i b : Nat) (W : Nat → TT) : Option (Nat × Bool × Nat × (Nat → TT)) := if ch n t i = 42 then (if wOk n t (i + 1) then some (wE n t (i + 1), true, b, W) else none) else match rowR n t 3 (if ch n t i = 58 then i + 1 else i) (if ch n t i = 58 then 0 else b) W with
  | none => none
  | some (e, c, W') => some (e, false, c, W')
def uR (n : Nat) (t : TT) (i b : Nat) (W : Nat → TT) : Option (Nat × Bool × Nat × Nat × (Nat → TT) × Bool × Option Int32) := match hdR n t (sk isBlk n t i) b W with
  | none => none
  | some (h, cm, c, W') => match bhR n t (if ch n t h = 63 then h + 1 else h) with
    | none => none
    | some (z, ov) => some (z, cm, h, c, W', decide (ch n t h = 63), ov)
/-- only the reader's cells -/
def RF (m m' : Mem) : Prop := ∀ k, (k < 38 ∨ 42 < k) → m' k = m k
theorem c_read {m : Mem} {n : Nat} {t : TT} {N : Nat} (hN : 200 ≤ N) (h : TC m n t) {i b : Nat} {W : Nat → TT} (hp : m 38 1 = nI i) (hi : i ≤ n) (hb : m 38 2 = nI b) (hb5 : b ≤ 5) (hW : ∀ s j, s < 3 → j < b → m (40 + s) j = W s j) : (∃ z cm hd c W' q ov m', uR n t i b W = some (z, cm, hd, c, W', q, ov) ∧ f_X6_read N m = some (m', 1) ∧ m' 38 1 = nI z ∧ i ≤ z ∧ z ≤ n ∧ isEb (ch n t z) = true ∧ m' 38 2 = nI b ∧ m' 38 3 = b2i cm ∧ (cm = true → m' 38 4 = nI (sk isBlk n t i + 1) ∧ m' 38 5 = nI hd ∧ sk isBlk n t i + 1 < hd ∧ hd ≤ n ∧ c = b) ∧ (cm = false → m' 39 3 = nI c ∧ 1 ≤ c ∧ c ≤ 6) ∧ (∀ s j, s < 3 → j < c → m' (40 + s) j = W' s j) ∧ m' 38 6 = b2i q ∧ OV m' ov ∧ RF m m') ∨ (uR n t i b W = none ∧ ∃ m', f_X6_read N m = some (m', 0) ∧ RF m m') := by
  have hn := h.2.2
  obtain ⟨k1, k2, k3, k4⟩ := sk_all isBlk n t i
  unfold f_X6_read f_X6_read_31 uR
  rw [hp, c_pastBlanks h hN (by omega), bm_some, lm_def]
  generalize hi0 : sk isBlk n t i = i0 at *
  have e1 : up m 38 1 (nI i0) 38 1 = nI i0 := by simp [up]
  have t1 : TC (up m 38 1 (nI i0)) n t := (BF.u (by omega)).tc h
  rw [e1, c_byteAt t1 (by omega), bm_some]
  -- the tail of the reading
  have tl : ∀ (M : Mem) (hd c : Nat) (cm : Bool) (W' : Nat → TT), RF m M → M 38 1 = nI hd → i0 ≤ hd → hd ≤ n → M 38 2 = nI b → M 38 3 = b2i cm → (cm = true → M 38 4 = nI (i0 + 1) ∧ M 38 5 = nI hd ∧ i0 + 1 < hd ∧ hd ≤ n ∧ c = b) → (cm = false → M 39 3 = nI c ∧ 1 ≤ c ∧ c ≤ 6) → (∀ s j, s < 3 → j < c → M (40 + s) j = W' s j) → hdR n t i0 b W = some (hd, cm, c, W') → (∃ z cm hd c W' q ov m', (match hdR n t i0 b W with
      | none => none
      | some (h, cm, c, W') => match bhR n t (if ch n t h = 63 then h + 1 else h) with
        | none => none
        | some (z, ov) => some (z, cm, h, c, W', decide (ch n t h = 63), ov)) = some (z, cm, hd, c, W', q, ov) ∧ f_X6_read_54 N M 1 = some (m', 1) ∧ m' 38 1 = nI z ∧ i ≤ z ∧ z ≤ n ∧ isEb (ch n t z) = true ∧ m' 38 2 = nI b ∧ m' 38 3 = b2i cm ∧ (cm = true → m' 38 4 = nI (i0 + 1) ∧ m' 38 5 = nI hd ∧ i0 + 1 < hd ∧ hd ≤ n ∧ c = b) ∧ (cm = false → m' 39 3 = nI c ∧ 1 ≤ c ∧ c ≤ 6) ∧ (∀ s j, s < 3 → j < c → m' (40 + s) j = W' s j) ∧ m' 38 6 = b2i q ∧ OV m' ov ∧ RF m m') ∨ ((match hdR n t i0 b W with
      | none => none
      | some (h, cm, c, W') => match bhR n t (if ch n t h = 63 then h + 1 else h) with
        | none => none
        | some (z, ov) => some (z, cm, h, c, W', decide (ch n t h = 63), ov)) = none ∧ ∃ m', f_X6_read_54 N M 1 = some (m', 0) ∧ RF m m') := by
    intro M hd c cm W' rf e1 l1 l2 e2 e3 f1 f2 f3 eh
    rw [eh]
    have tM : TC M n t := by
      unfold TC
      rw [rf 1 (by decide), rf 2 (by decide)]
      exact h
    unfold f_X6_read_54 f_X6_read_80 f_X6_read_100
    rw [if_neg (by decide), e1, c_byteAt tM (by omega), bm_some]
    simp only [gd_of (show isB 1 = true from rfl), gd_of (show isB 0 = true from rfl), lm_def]
    have u6 : ∀ v, up M 38 6 v 38 6 = v := fun v => by simp [up]
    have u1 : ∀ v, up M 38 6 v 38 1 = nI hd := fun v => by simp [up, e1]
    simp only [u6, u1, if_true, if_neg (show ¬ (1 : Int32) = 0 by decide), nI_1]
    have fin : ∀ (M2 : Mem) (h1 : Nat) (q : Bool), (if ch n t hd = 63 then hd + 1 else hd) = h1 → decide (ch n t hd = 63) = q → (∀ k, k ≠ 38 → M2 k = M k) → (∀ j, j ≠ 1 → j ≠ 6 → M2 38 j = M 38 j) → M2 38 1 = nI h1 → M2 38 6 = b2i q → hd ≤ h1 → h1 ≤ n → (∃ z cm' hd' c' W'' q' ov m', (match bhR n t (if ch n t hd = 63 then hd + 1 else hd) with
        | none => none
        | some (z, ov) => some (z, cm, hd, c, W', decide (ch n t hd = 63), ov)) = some (z, cm', hd', c', W'', q', ov) ∧ bm (f_X6_readBehindHeader N M2) (fun m1 r1 => gd (isB r1) (some (m1, r1))) = some (m', 1) ∧ m' 38 1 = nI z ∧ i ≤ z ∧ z ≤ n ∧ isEb (ch n t z) = true ∧ m' 38 2 = nI b ∧ m' 38 3 = b2i cm' ∧ (cm' = true → m' 38 4 = nI (i0 + 1) ∧ m' 38 5 = nI hd' ∧ i0 + 1 < hd' ∧ hd' ≤ n ∧ c' = b) ∧ (cm' = false → m' 39 3 = nI c' ∧ 1 ≤ c' ∧ c' ≤ 6) ∧ (∀ s j, s < 3 → j < c' → m' (40 + s) j = W'' s j) ∧ m' 38 6 = b2i q' ∧ OV m' ov ∧ RF m m') ∨ ((match bhR n t (if ch n t hd = 63 then hd + 1 else hd) with
        | none => none
        | some (z, ov) => some (z, cm, hd, c, W', decide (ch n t hd = 63), ov)) = none ∧ ∃ m', bm (f_X6_readBehindHeader N M2) (fun m1 r1 => gd (isB r1) (some (m1, r1))) = some (m', 0) ∧ RF m m') := by
      intro M2 h1 q eh1 eq fr fr6 e21 e26 l3 l4
      rw [eh1, eq]
      have t2 : TC M2 n t := by
        unfold TC
        rw [fr 1 (by decide), fr 2 (by decide)]
        exact tM
      rcases c_bh hN t2 e21 l4 with ⟨z, ov, m', a1, a2, a3, a4, a5, a6, a7, a8⟩ | ⟨a1, m', a2, a3⟩
      · left
        rw [a2, bm_some, gd_of (show isB 1 = true from rfl), a1]
        refine ⟨z, cm, hd, c, W', q, ov, m', rfl, rfl, a3, by omega, a6, a7, ?_, ?_, fun hc => ?_, fun hc => ?_, fun s j hs hj => ?_, ?_, a4, fun k hk => ?_⟩
        · rw [a8.2 2 (by decide) (by decide) (by decide), fr6 2 (by decide) (by decide), e2]
        · rw [a8.2 3 (by decide) (by decide) (by decide), fr6 3 (by decide) (by decide), e3]
        · rw [a8.2 4 (by decide) (by decide) (by decide), fr6 4 (by decide) (by decide), a8.2 5 (by decide) (by decide) (by decide), fr6 5 (by decide) (by decide)]
          exact f1 hc
        · rw [a8.1 39 (by decide), fr 39 (by decide)]
          exact f2 hc
        · rw [a8.1 _ (by omega), fr _ (by omega)]
          exact f3 s j hs hj
        · rw [a8.2 6 (by decide) (by decide) (by decide), e26]
        · rw [a8.1 k (by omega), fr k (by omega), rf k hk]
      · right
        rw [a2, bm_some, gd_of (show isB 0 = true from rfl), a1]
        exact ⟨rfl, m', rfl, fun k hk => by rw [a3.1 k (by omega), fr k (by omega), rf k hk]⟩
    by_cases hq : ch n t hd = 63
    · have hlt := ch_pos (n := n) (t := t) (i := hd) (by rw [hq]; decide)
      have F := fin (up (up M 38 6 1) 38 1 (nI (hd + 1))) (hd + 1) true (by rw [if_pos hq]) (by simp [hq]) (fun k hk => by rw [up_ne hk, up_ne hk]) (fun j h1 h2 => by simp [up, h1, h2]) (by simp [up]) (by simp [up, b2i]) (by omega) (by omega)
      simp only [if_pos hq] at F ⊢
      exact F
    · have F := fin (up M 38 6 0) hd false (by rw [if_neg hq]) (by simp [hq]) (fun k hk => by rw [up_ne hk]) (fun j h1 h2 => by simp [up, h2]) (by simp [up, e1]) (by simp [up, b2i]) (by omega) (by omega)
      simp only [if_neg hq] at F ⊢
      exact F
  simp only [gd_of (show isB 1 = true from rfl), gd_of (show isB 0 = true from rfl), lm_def]
  have v3 : ∀ v, up (up m 38 1 (nI i0)) 38 3 v 38 3 = v := fun v => by simp [up]
  have v1 : ∀ v, up (up m 38 1 (nI i0)) 38 3 v 38 1 = nI i0 := fun v => by simp [up]
  simp only [v3, if_true, if_neg (show ¬ (1 : Int32) = 0 by decide)]
  by_cases hst : ch n t i0 = 42
  · have hlt := ch_pos (n := n) (t := t) (i := i0) (by rw [hst]; decide)
    rw [if_pos hst]
    unfold f_X6_readCommonHeader
    rw [v1, lm_def, nI_1]
    generalize hg : up (up (up m 38 1 (nI i0)) 38 3 1) 38 4 (nI (i0 + 1)) = m4
    have r4 : ∀ k, k ≠ 38 → m4 k = m k := fun k hk => by rw [← hg, up_ne hk, up_ne hk, up_ne hk]
    have t4 : TC m4 n t := by
      unfold TC
      rw [r4 1 (by decide), r4 2 (by decide)]
      exact h
    have e44 : m4 38 4 = nI (i0 + 1) := by rw [← hg]; simp [up]
    have e43 : m4 38 3 = 1 := by rw [← hg]; simp [up]
    have e42 : m4 38 2 = nI b := by rw [← hg]; simp [up, hb]
    obtain ⟨j1, j2, j3, j4⟩ := sk_all isLet n t (i0 + 1)
    rw [e44, c_pastLetters t4 hN (by omega), bm_some, lm_def, lm_def]
    have w5 : up m4 38 5 (nI (sk isLet n t (i0 + 1))) 38 5 = nI (sk isLet n t (i0 + 1)) := by simp [up]
    rw [w5]
    generalize hg5 : up (up m4 38 5 (nI (sk isLet n t (i0 + 1)))) 38 1 (nI (sk isLet n t (i0 + 1))) = m5
    have e55 : m5 38 5 = nI (sk isLet n t (i0 + 1)) := by rw [← hg5]; simp [up]
    have e54 : m5 38 4 = nI (i0 + 1) := by rw [← hg5]; simp [up, e44]
    have e51 : m5 38 1 = nI (sk isLet n t (i0 + 1)) := by rw [← hg5]; simp [up]
    have r5 : ∀ k, k ≠ 38 → m5 k = m k := fun k hk => by rw [← hg5, up_ne hk, up_ne hk, r4 k hk]
    rw [e55, e54, pk_sub j1, c_within, bm_some, gd_of isB01, bm_some]
    by_cases ho : wOk n t (i0 + 1)
    · have hl := wOk_lt ho
      rw [if_pos (show (1 : Int32) ≤ nI (sk isLet n t (i0 + 1) - (i0 + 1)) ∧ nI (sk isLet n t (i0 + 1) - (i0 + 1)) ≤ 8 from ⟨nI_le (a := 1) ho.1 (by omega), nI_le (b := 8) ho.2 (by decide)⟩)]
      refine tl m5 (wE n t (i0 + 1)) b true W (fun k hk => r5 k (by omega)) e51 (by omega) (by omega) (by rw [← hg5]; simp [up, e42]) (by rw [← hg5]; simp [up, e43, b2i]) (fun _ => ⟨e54, e55, by omega, by omega, rfl⟩) (fun q => by simp at q) (fun s j hs hj => by rw [r5 _ (by omega)]; exact hW s j hs hj) ?_
      unfold hdR
      rw [if_pos hst, if_pos ho]
    · right
      have ew : wE n t (i0 + 1) = sk isLet n t (i0 + 1) := rfl
      rw [if_neg (fun q => ho ⟨(nI_leI (a := 1) (by omega) (by omega)).mp q.1, (nI_leI (b := 8) (by omega) (by omega)).mp q.2⟩)]
      unfold f_X6_read_54 hdR
      rw [if_pos rfl, if_pos hst, if_neg ho]
      exact ⟨rfl, m5, rfl, fun k hk => r5 k (by omega)⟩
  · rw [if_neg hst]
    unfold f_X6_readWordsHeader f_X6_readWordsHeader_18 f_X6_readWordsHeader_33 f_X6_readWordsHeader_49
    have t3 : TC (up (up m 38 1 (nI i0)) 38 3 0) n t := by
      unfold TC
      rw [up_ne (by decide), up_ne (by decide), up_ne (by decide), up_ne (by decide)]
      exact h
    rw [v1, c_byteAt t3 (by omega), bm_some]
    simp only [if_true, if_neg (show ¬ (1 : Int32) = 0 by decide), lm_def, v1, nI_1]
    have row : ∀ (M : Mem) (i1 c0 : Nat), (if ch n t i0 = 58 then i0 + 1 else i0) = i1 → (if ch n t i0 = 58 then 0 else b) = c0 → (∀ k, k ≠ 38 → k ≠ 39 → M k = m k) → M 38 1 = nI i1 → M 38 2 = nI b → M 38 3 = 0 → M 39 3 = nI c0 → i0 ≤ i1 → i1 ≤ n → c0 ≤ b → (∃ e c W' M', hdR n t i0 b W = some (e, false, c, W') ∧ bm (f_X6_readWords N M) (fun m2 r2 => gd (isB r2) (some (m2, r2))) = some (M', 1) ∧ RF m M' ∧ M' 38 1 = nI e ∧ i0 ≤ e ∧ e ≤ n ∧ M' 38 2 = nI b ∧ M' 38 3 = 0 ∧ M' 39 3 = nI c ∧ 1 ≤ c ∧ c ≤ 6 ∧ (∀ s j, s < 3 → j < c → M' (40 + s) j = W' s j)) ∨ (hdR n t i0 b W = none ∧ ∃ M', bm (f_X6_readWords N M) (fun m2 r2 => gd (isB r2) (some (m2, r2))) = some (M', 0) ∧ RF m M') := by
      intro M i1 c0 ei ec fr e1 e2 e3 e4 l1 l2 l3
      have tM : TC M n t := by
        unfold TC
        rw [fr 1 (by decide) (by decide), fr 2 (by decide) (by decide)]
        exact h
      unfold f_X6_readWords hdR
      rw [if_neg hst, ei, ec]
      rcases c_readWords (n := n) (t := t) hN 4 N M i1 c0 W (by omega) (by omega) tM e1 (by omega) ⟨e4, fun s j hs hj => by rw [fr _ (by omega) (by omega)]; exact hW s j hs (by omega)⟩ (by omega) (by omega) with ⟨e, c', W', m', a1, a2, a3, a4, a5, a6, a7, a8, a9, a10⟩ | ⟨a1, m', a2, a3⟩
      · left
        rw [show rowR n t 3 i1 c0 W = _ from a1, show f_X6_readWords_2 N N M 0 = _ from a2, bm_some, gd_of (show isB 1 = true from rfl)]
        exact ⟨e, c', W', m', rfl, rfl, fun k hk => by rw [a10.1 k hk, fr k (by omega) (by omega)], a3, by omega, a4, by rw [a10.2 2 (by decide), e2], by rw [a10.2 3 (by decide), e3], a9.1, by omega, a7, a9.2⟩
      · right
        rw [show rowR n t 3 i1 c0 W = _ from a1, show f_X6_readWords_2 N N M 0 = _ from a2, bm_some, gd_of (show isB 0 = true from rfl)]
        exact ⟨rfl, m', rfl, fun k hk => by rw [a3.1 k hk, fr k (by omega) (by omega)]⟩
    by_cases h58 : ch n t i0 = 58
    · have hlt := ch_pos (n := n) (t := t) (i := i0) (by rw [h58]; decide)
      simp only [if_pos h58]
      rcases row (up (up (up (up m 38 1 (nI i0)) 38 3 0) 38 1 (nI (i0 + 1))) 39 3 0) (i0 + 1) 0 (by rw [if_pos h58]) (by rw [if_pos h58]) (fun k h1 h2 => by rw [up_ne h2, up_ne h1, up_ne h1, up_ne h1]) (by simp [up]) (by simp [up, hb]) (by simp [up]) (by simp [up]; rfl) (by omega) (by omega) (by omega) with ⟨e, c, W', M', a1, a2, a3, a4, a5, a6, a7, a8, a9, a10, a11, a12⟩ | ⟨a1, M', a2, a3⟩
      · rw [a2, bm_some]
        exact tl M' e c false W' a3 a4 a5 a6 a7 (by rw [a8]; rfl) (fun q => by simp at q) (fun _ => ⟨a9, a10, a11⟩) a12 a1
      · right
        rw [a2, bm_some, a1]
        unfold f_X6_read_54
        rw [if_pos rfl]
        exact ⟨rfl, M', rfl, a3⟩
    · simp only [if_neg h58]
      have v2 : up (up m 38 1 (nI i0)) 38 3 0 38 2 = nI b := by simp [up, hb]
      rw [v2]
      rcases row (up (up (up m 38 1 (nI i0)) 38 3 0) 39 3 (nI b)) i0 b (by rw [if_neg h58]) (by rw [if_neg h58]) (fun k h1 h2 => by rw [up_ne h2, up_ne h1, up_ne h1]) (by simp [up]) (by simp [up, hb]) (by simp [up]) (by simp [up]) (by omega) (by omega) (by omega) with ⟨e, c, W', M', a1, a2, a3, a4, a5, a6, a7, a8, a9, a10, a11, a12⟩ | ⟨a1, M', a2, a3⟩
      · rw [a2, bm_some]
        exact tl M' e c false W' a3 a4 a5 a6 a7 (by rw [a8]; rfl) (fun q => by simp at q) (fun _ => ⟨a9, a10, a11⟩) a12 a1
      · right
        rw [a2, bm_some, a1]
        unfold f_X6_read_54
        rw [if_pos rfl]
        exact ⟨rfl, M', rfl, a3⟩
