def tOrd (T : TT) (j s : Nat) (q : Bool) (v : Int32) : TT := if q = true then (if T (27 + 20 * j + 1) = 1 then tAnswer T (T (27 + 20 * j + 6 + s)) else tAnswer T (T (27 + 20 * j + 9))) else (if T (27 + 20 * j + 1) = 1 then tNum T j s v else tAct T j (decide (T (27 + 20 * j + 1) = 3)))
theorem m_doNode43 {m : Mem} {T : TT} {j s : Nat} {q : Bool} {v : Int32} (hT : m 112 = T) (hI : IT T) (hj : j < 16) (hs : s < 3) (h19 : m 111 19 = b2i q) (hk : T (27 + 20 * j + 1) = 1 ∨ T (27 + 20 * j + 1) = 2 ∨ T (27 + 20 * j + 1) = 3) (hv : T (27 + 20 * j + 1) = 1 → q = false → m 111 21 = v) : f_X9_doNode_43 m (nI j) (nI (s + 1)) = some (setC m 112 (tOrd T j s q v), 0) ∨ (f_X9_doNode_43 m (nI j) (nI (s + 1)) = some (m, -222) ∧ tOrd T j s q v = tFault T (-222)) := by
  have i12 := hI.2.2.2.1
  have i11 := hI.2.2.1
  have aA : ∀ x, f_X9_addAnswer m x = some (setC m 112 (tAnswer T x), ()) := fun x => by
    have := m_addAnswer m x (by rw [hT]; exact i12) (by rw [hT]; exact i11)
    rw [hT] at this
    exact this
  have oN : ∀ (M : Mem) w, w < 20 → f_X9_ofNode M (nI j) (nI w) = some (M, M 112 (27 + 20 * j + w)) := fun M w hw => m_ofNode M hj hw
  have pN : ∀ (M : Mem) w x, w < 20 → f_X9_put M (nI j) (nI w) x = some (setC M 112 (upd (M 112) (27 + 20 * j + w) x), ()) := fun M w x hw => m_put M x hj hw
  have e6 : (6 : Int32) + nI (s + 1) - 1 = nI (6 + s) := by rw [show (6 : Int32) = nI 6 from rfl, show (1 : Int32) = nI 1 from rfl, nI_add, pk_sub (by omega)]; rfl
  have l185 : ∀ (M : Mem), f_X9_doNode_185 M (nI j) = some (setC M 112 (tDone (M 112) j), 0) := by
    intro M
    unfold f_X9_doNode_185
    rw [show f_X9_ofNode M (nI j) 9 = _ from oN M 9 (by decide), bm_some, show f_X9_put M (nI j) 9 (M 112 (27 + 20 * j + 9) + 1) = _ from pN M 9 _ (by decide), bm_some]
    rfl
  unfold f_X9_doNode_43 f_X9_doNode_85 tOrd
  rw [show f_X9_ofNode m (nI j) 1 = _ from oN m 1 (by decide), bm_some, hT, h19, e6]
  cases q with
  | true =>
    left
    rw [if_neg (show ¬ b2i true = 0 by decide), if_pos (show true = true from rfl)]
    by_cases k1 : T (27 + 20 * j + 1) = 1
    · rw [if_pos k1, if_pos k1, oN m (6 + s) (by omega), bm_some, hT, ← Nat.add_assoc, aA, bm_some]
    · rw [if_neg k1, if_neg k1, show f_X9_ofNode m (nI j) 9 = _ from oN m 9 (by decide), bm_some, hT, aA, bm_some]
  | false =>
    rw [if_pos (show b2i false = 0 by decide), if_neg (show ¬ false = true by decide)]
    by_cases k1 : T (27 + 20 * j + 1) = 1
    · rw [if_pos k1, if_pos k1, show f_X9_ofNode m (nI j) 4 = _ from oN m 4 (by decide), bm_some, show f_X9_ofNode m (nI j) 5 = _ from oN m 5 (by decide), bm_some, hT, m_in, bm_some, if01, hv k1 rfl]
      unfold tNum
      by_cases z : T (27 + 20 * j + 4) ≤ v ∧ v ≤ T (27 + 20 * j + 5)
      · left
        rw [if_pos z, if_pos z, pN m (6 + s) _ (by omega), bm_some, hT, ← Nat.add_assoc]
      · right
        rw [if_neg z, if_neg z]
        exact ⟨rfl, rfl⟩
    · rw [if_neg k1, if_neg k1]
      unfold tAct
      by_cases k2 : T (27 + 20 * j + 1) = 2
      · left
        rw [if_pos k2, l185, hT, k2]
        rfl
      · have k3 : T (27 + 20 * j + 1) = 3 := by
          rcases hk with z | z | z
          · exact absurd z k1
          · exact absurd z k2
          · exact z
        rw [if_neg k2, if_pos (show decide (T (27 + 20 * j + 1) = 3) = true by rw [k3]; rfl)]
        obtain ⟨a, ha, e⟩ := rng (b := 4) (by decide) hI.2.1.1 hI.2.1.2
        by_cases h4 : T 9 = 4
        · right
          simp only [gd_of (show inR 9 347 = true from rfl), show ix 9 = 9 from rfl, hT, if_pos h4]
          exact ⟨trivial, trivial⟩
        · left
          have e13 : (13 : Int32) + nI a = nI (13 + a) := by rw [show (13 : Int32) = nI 13 from rfl, nI_add]
          have h9 : ∀ x, upd T (13 + a) x 9 = nI a := fun x => by simp only [upd]; rw [if_neg (by omega), e]
          simp only [gd_of (show inR 9 347 = true from rfl), show ix 9 = 9 from rfl, hT, if_neg h4, e, e13, gd_of (inR_nI (show 13 + a < 347 by omega) (show 347 < 2 ^ 31 by decide)), ix_nI (show 13 + a < 2 ^ 31 by omega), ix_nI (show a < 2 ^ 31 by omega), lm_def, up_setC, setC_at, setC_setC, h9, l185]
          rw [e] at h4
          rw [if_neg h4, if_neg h4]
