theorem uR_ok {n : Nat} {t : TT} {i b hd c z : Nat} {W W' : Nat → TT} {cm : Bool} {ov : Option Int32} (h1 : hdR n t (sk isBlk n t i) b W = some (hd, cm, c, W')) (h2 : bhR n t (if ch n t hd = 63 then hd + 1 else hd) = some (z, ov)) : uR n t i b W = some (z, cm, hd, c, W', decide (ch n t hd = 63), ov) := by
  unfold uR
  rw [h1]
  simp only [h2]
theorem uR_n1 {n : Nat} {t : TT} {i b : Nat} {W : Nat → TT} (h1 : hdR n t (sk isBlk n t i) b W = none) : uR n t i b W = none := by
  unfold uR
  rw [h1]
theorem uR_n2 {n : Nat} {t : TT} {i b hd c : Nat} {W W' : Nat → TT} {cm : Bool} (h1 : hdR n t (sk isBlk n t i) b W = some (hd, cm, c, W')) (h2 : bhR n t (if ch n t hd = 63 then hd + 1 else hd) = none) : uR n t i b W = none := by
  unfold uR
  rw [h1]
  simp only [h2]
theorem fig_stop {n : Nat} {t : TT} {p : Nat} (h : isFig (ch n t p) = true) : p < n ∧ sk isBlk n t p = p ∧ isEb (ch n t p) = false ∧ ¬ ch n t p = 63 := by
  have hlt := ch_pos (n := n) (t := t) (i := p) (by unfold isFig at h; grind)
  refine ⟨hlt, ?_, ?_, ?_⟩
  · rw [sk_lt hlt]
    rw [show ch n t p = t p from if_pos hlt] at h
    rw [if_neg (by unfold isFig at h; unfold isBlk; grind)]
  · unfold isFig at h
    unfold isEb
    grind
  · unfold isFig at h
    grind
theorem bhR_fig {n : Nat} {t : TT} {p : Nat} (h : isFig (ch n t p) = true) : bhR n t p = none := by
  obtain ⟨a, b, c, d⟩ := fig_stop h
  unfold bhR
  rw [b, c, if_neg (by decide), if_pos rfl]
theorem bhR_e {n : Nat} {t : TT} {h : Nat} (he : isEb (ch n t (sk isBlk n t h)) = true) : bhR n t h = some (sk isBlk n t h, none) := by
  unfold bhR
  rw [if_pos he]
theorem bhR_h {n : Nat} {t : TT} {h : Nat} (he : isEb (ch n t (sk isBlk n t h)) = false) (hh : sk isBlk n t h = h) : bhR n t h = none := by
  unfold bhR
  rw [he, if_neg (by decide), if_pos hh]
theorem bhR_v0 {n : Nat} {t : TT} {h : Nat} (he : isEb (ch n t (sk isBlk n t h)) = false) (hv : valR n t (sk isBlk n t h) = none) : bhR n t h = none := by
  unfold bhR
  rw [he, if_neg (by decide), hv]
  split <;> rfl
theorem bhR_v {n : Nat} {t : TT} {h p : Nat} {v : Int32} (he : isEb (ch n t (sk isBlk n t h)) = false) (hh : ¬ sk isBlk n t h = h) (hv : valR n t (sk isBlk n t h) = some (p, v)) : bhR n t h = if isEb (ch n t (sk isBlk n t p)) = true then some (sk isBlk n t p, some v) else none := by
  unfold bhR
  rw [he, if_neg (by decide), if_neg hh, hv]
theorem m_isEnd {m : Mem} {n : Nat} {t : TT} (h : TM m n t) {i : Nat} (hp : m 111 16 = nI i) (hi : i < 1000) : f_X9_isEnd m = some (m, if isEb (ch n t i) = true then 1 else 0) := by
  unfold f_X9_isEnd f_X9_isEnd_17
  rw [m_here h hp hi, bm_some, m_here h hp hi, bm_some]
  unfold isEb
  grind
def MV (m : Mem) (ov : Option Int32) : Prop := match ov with
  | none => m 111 20 = 0
  | some v => m 111 20 = 1 ∧ m 111 21 = v
theorem VF.pf {m m' : Mem} (h : VF m m') : PF m m' := ⟨fun k hk _ => h.1 k hk, fun j hj => h.2 j (by omega) (by omega) (by omega)⟩
theorem m_bh {m : Mem} {n : Nat} {t : TT} {N : Nat} (hN : 200 ≤ N) (h : TM m n t) {x y : Int32} {k : Nat} (hp : x + y = nI k) (hk : k ≤ n) (h20 : m 111 20 = 0) : (∃ z ov m', bhR n t k = some (z, ov) ∧ f_X9_isUnit_53 N m x y = some (m', 1) ∧ m' 111 16 = nI z ∧ MV m' ov ∧ VF m m') ∨ (bhR n t k = none ∧ ∃ m', f_X9_isUnit_53 N m x y = some (m', 0) ∧ VF m m') := by
  have hn := h.2.2
  obtain ⟨k1, k2, k3, k4⟩ := sk_all isBlk n t k
  unfold f_X9_isUnit_53
  rw [hp, lm_def]
  have e1 : up m 111 16 (nI k) 111 16 = nI k := by simp [up]
  rw [m_blanks (h.p _) hN e1 (by omega), bm_some, up_up]
  have e2 : up m 111 16 (nI (sk isBlk n t k)) 111 16 = nI (sk isBlk n t k) := by simp [up]
  have f1 : VF m (up m 111 16 (nI (sk isBlk n t k))) := VF.u (by omega)
  rw [m_isEnd (h.p _) e2 (by omega), bm_some, if01]
  by_cases he : isEb (ch n t (sk isBlk n t k)) = true
  · left
    rw [if_pos he]
    exact ⟨_, _, _, bhR_e he, rfl, e2, by simp [MV, up, h20], f1⟩
  · have he' : isEb (ch n t (sk isBlk n t k)) = false := by simpa using he
    rw [if_neg he, e2, e1]
    by_cases hq : sk isBlk n t k = k
    · right
      rw [if_pos (by rw [hq])]
      exact ⟨bhR_h he' hq, _, rfl, f1⟩
    · rw [if_neg (show ¬ nI (sk isBlk n t k) = nI k from fun q => hq ((nI_eq (by omega) (by omega)).mp q))]
      have hlt : sk isBlk n t k < n := by
        rcases Nat.lt_or_ge (sk isBlk n t k) n with q | q
        · exact q
        · exfalso
          apply he
          unfold isEb ch
          rw [if_neg (by omega)]
          decide
      rcases m_value hN (h.p _) e2 hlt with ⟨p, v, m2, a1, a2, a3, a4, a5, a6, a7, a8, a9⟩ | ⟨a1, a2⟩
      · rw [a3, bm_some, if_neg (by decide)]
        have t2 := (f1.tr a9).tm h
        obtain ⟨j1, j2, j3, j4⟩ := sk_all isBlk n t p
        have e3 : up m2 111 16 (nI (sk isBlk n t p)) 111 16 = nI (sk isBlk n t p) := by simp [up]
        have f2 : VF m2 (up m2 111 16 (nI (sk isBlk n t p))) := VF.u (by omega)
        rw [m_blanks t2 hN a4 (by omega), bm_some, m_isEnd (t2.p _) e3 (by omega), bm_some, gd_of isB01, bhR_v he' hq a1]
        by_cases hz : isEb (ch n t (sk isBlk n t p)) = true
        · left
          rw [if_pos hz, if_pos hz]
          exact ⟨_, _, _, rfl, rfl, e3, by simp [MV, up, a5, a6], (f1.tr a9).tr f2⟩
        · right
          rw [if_neg hz, if_neg hz]
          exact ⟨rfl, _, rfl, (f1.tr a9).tr f2⟩
      · right
        have hnone : bhR n t k = none := by
          generalize hX : valR n t (sk isBlk n t k) = X at *
          cases X with
          | none => exact bhR_v0 he' hX
          | some x =>
            obtain ⟨p, v⟩ := x
            have hf := a1 p v rfl
            obtain ⟨b1, b2, b3, b4⟩ := fig_stop hf
            rw [bhR_v he' hq hX, b2, b3]
            rfl
        refine ⟨hnone, ?_⟩
        rcases a2 with ⟨m2, a2, a3⟩ | ⟨m2, p, a2, a3, a4, a5, a6⟩
        · rw [a2, bm_some, if_pos rfl]
          exact ⟨m2, rfl, f1.tr a3⟩
        · rw [a2, bm_some, if_neg (by decide)]
          have t2 := (f1.tr a6).tm h
          obtain ⟨b1, b2, b3, b4⟩ := fig_stop a5
          have e3 : up m2 111 16 (nI p) 111 16 = nI p := by simp [up]
          rw [m_blanks t2 hN a3 (by omega), bm_some, b2, m_isEnd (t2.p _) e3 (by omega), bm_some, gd_of isB01, b3]
          exact ⟨_, rfl, (f1.tr a6).tr (VF.u (by omega))⟩
theorem m_unit {m : Mem} {n : Nat} {t : TT} {N : Nat} (hN : 200 ≤ N) (h : TM m n t) {i b : Nat} {W : Nat → TT} (hp : m 111 16 = nI i) (hi : i ≤ n) (hb : m 111 22 = nI b) (hb5 : b ≤ 5) (hW : ∀ s j, s < 3 → j < b → m (117 + s) j = W s j) : (∃ z cm hd c W' q ov m', uR n t i b W = some (z, cm, hd, c, W', q, ov) ∧ f_X9_isUnit N m = some (m', 1) ∧ m' 111 16 = nI z ∧ m' 111 17 = b2i cm ∧ (cm = true → m' 111 18 = cdF n t (sk isBlk n t i + 1) (hd - (sk isBlk n t i + 1)) ∧ c = b ∧ W' = W) ∧ (cm = false → m' 111 10 = nI c ∧ 1 ≤ c ∧ c ≤ 6) ∧ (∀ s j, s < 3 → j < c → m' (117 + s) j = W' s j) ∧ m' 111 19 = b2i q ∧ MV m' ov ∧ PF m m') ∨ (uR n t i b W = none ∧ ∃ m', f_X9_isUnit N m = some (m', 0) ∧ PF m m') := by
  have hn := h.2.2
  obtain ⟨k1, k2, k3, k4⟩ := sk_all isBlk n t i
  unfold f_X9_isUnit
  rw [m_blanks h hN hp (by omega), bm_some, lm_def]
  have pf1 : PF m (up (up m 111 16 (nI (sk isBlk n t i))) 111 20 0) := (PF.u (by omega)).tr (PF.u (by omega))
  have t1 := pf1.tm h
  have p1 : up (up m 111 16 (nI (sk isBlk n t i))) 111 20 0 111 16 = nI (sk isBlk n t i) := by simp [up]
  have b1 : up (up m 111 16 (nI (sk isBlk n t i))) 111 20 0 111 22 = nI b := by simp [up, hb]
  have z1 : up (up m 111 16 (nI (sk isBlk n t i))) 111 20 0 111 20 = 0 := by simp [up]
  have W1 : ∀ s j, s < 3 → j < b → up (up m 111 16 (nI (sk isBlk n t i))) 111 20 0 (117 + s) j = W s j := fun s j hs hj => by rw [up_ne (by omega), up_ne (by omega)]; exact hW s j hs hj
  rcases m_header hN t1 p1 (by omega) b1 hb5 W1 with ⟨hd, cm, c, W', m2, a1, a2, a3, a4, a5, a6, a7, a8, a9, a10, a11, a12⟩ | ⟨a1, m2, a2, a3⟩
  · rw [a3, bm_some, if_neg (by decide)]
    have t2 := (pf1.tr a12).tm h
    rw [m_here t2 a4 (by omega), bm_some]
    unfold f_X9_isUnit_33
    simp only [gd_of (show isB 1 = true from rfl), gd_of (show isB 0 = true from rfl), lm_def]
    have key : ∀ (q : Bool) (y : Int32) (k : Nat), decide (ch n t hd = 63) = q → (if ch n t hd = 63 then hd + 1 else hd) = k → nI hd + y = nI k → k ≤ n → (∃ z cm' hd' c' W'' q' ov m', uR n t i b W = some (z, cm', hd', c', W'', q', ov) ∧ f_X9_isUnit_53 N (up m2 111 19 (b2i q)) (nI hd) y = some (m', 1) ∧ m' 111 16 = nI z ∧ m' 111 17 = b2i cm' ∧ (cm' = true → m' 111 18 = cdF n t (sk isBlk n t i + 1) (hd' - (sk isBlk n t i + 1)) ∧ c' = b ∧ W'' = W) ∧ (cm' = false → m' 111 10 = nI c' ∧ 1 ≤ c' ∧ c' ≤ 6) ∧ (∀ s j, s < 3 → j < c' → m' (117 + s) j = W'' s j) ∧ m' 111 19 = b2i q' ∧ MV m' ov ∧ PF m m') ∨ (uR n t i b W = none ∧ ∃ m', f_X9_isUnit_53 N (up m2 111 19 (b2i q)) (nI hd) y = some (m', 0) ∧ PF m m') := by
      intro q y k hq hk hy hkn
      have pf3 : PF m2 (up m2 111 19 (b2i q)) := PF.u (by omega)
      rcases m_bh hN (pf3.tm t2) hy hkn (by simp [up]; rw [a11, z1]) with ⟨z, ov, m', c1, c2, c3, c4, c5⟩ | ⟨c1, m', c2, c3⟩
      · left
        refine ⟨z, cm, hd, c, W', q, ov, m', ?_, c2, c3, ?_, fun hc => ?_, fun hc => ?_, fun s j hs hj => ?_, ?_, c4, ((pf1.tr a12).tr pf3).tr c5.pf⟩
        · rw [← hq]
          exact uR_ok a1 (by rw [hk]; exact c1)
        · rw [c5.2 17 (by decide) (by decide) (by decide)]; simp [up, a7]
        · rw [c5.2 18 (by decide) (by decide) (by decide)]
          have := a8 hc
          refine ⟨?_, this.2⟩
          simp [up]
          exact this.1
        · rw [c5.2 10 (by decide) (by decide) (by decide)]
          have := a9 hc
          refine ⟨?_, this.2⟩
          simp [up]
          exact this.1
        · rw [c5.1 _ (by omega), up_ne (by omega)]
          exact a10 s j hs hj
        · rw [c5.2 19 (by decide) (by decide) (by decide)]; simp [up]
      · right
        exact ⟨uR_n2 a1 (by rw [hk]; exact c1), m', c2, ((pf1.tr a12).tr pf3).tr c3.pf⟩
    have e19 : ∀ v, up m2 111 19 v 111 19 = v := fun v => by simp [up]
    have e16 : ∀ v, up m2 111 19 v 111 16 = nI hd := fun v => by simp [up, a4]
    simp only [e19, e16, if_true, if_neg (show ¬ (1 : Int32) = 0 by decide)]
    by_cases hq : ch n t hd = 63
    · have hlt := ch_pos (n := n) (t := t) (i := hd) (by rw [hq]; decide)
      rw [if_pos hq]
      exact key true 1 (hd + 1) (by simp [hq]) (by rw [if_pos hq]) (by rw [nI_1]) (by omega)
    · rw [if_neg hq]
      exact key false 0 hd (by simp [hq]) (by rw [if_neg hq]) (by grind) (by omega)
  · right
    rw [a2, bm_some, if_pos rfl]
    refine ⟨?_, m2, rfl, pf1.tr a3⟩
    generalize hX : hdR n t (sk isBlk n t i) b W = X at *
    cases X with
    | none => exact uR_n1 hX
    | some x =>
      obtain ⟨hd, cm, c, W'⟩ := x
      have := a1 hd cm c W' rfl
      refine uR_n2 hX ?_
      have fs := fig_stop this.2
      rw [if_neg fs.2.2.2]
      exact bhR_fig this.2
