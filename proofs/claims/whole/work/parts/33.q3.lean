theorem bv_sh (x : BitVec 32) (j : Nat) (hj : j < 4) : x.sshiftRight j &&& 1#32 = if x.getLsbD j then 1#32 else 0#32 := by
  apply BitVec.eq_of_getLsbD_eq
  intro i hi
  by_cases h : i = 0
  · subst h
    rw [BitVec.getLsbD_and, BitVec.getLsbD_sshiftRight]
    by_cases hb : x.getLsbD j = true
    · simp [hb, show j < 32 by omega]
    · have hf : x[j] = false := by
        rw [← BitVec.getLsbD_eq_getElem (by omega)]
        simpa using hb
      simp [show j < 32 by omega, hf]
  · rw [BitVec.getLsbD_and]
    have : (1#32).getLsbD i = false := by simp [BitVec.getLsbD_one, h]
    rw [this]
    by_cases hb : x.getLsbD j = true
    · simp [hb, BitVec.getLsbD_one, h]
    · simp [hb]
theorem bv_xo (x : BitVec 32) (j : Nat) (hj : j < 4) : (x ^^^ BitVec.twoPow 32 j) &&& BitVec.twoPow 32 j = if x.getLsbD j then 0#32 else BitVec.twoPow 32 j := by
  apply BitVec.eq_of_getLsbD_eq
  intro i hi
  rw [BitVec.getLsbD_and, BitVec.getLsbD_xor, BitVec.getLsbD_twoPow]
  by_cases h : j = i
  · subst h
    by_cases hb : x.getLsbD j = true
    · simp [hb, hi]
    · have hf : x[j] = false := by
        rw [← BitVec.getLsbD_eq_getElem (by omega)]
        simpa using hb
      simp [hi, BitVec.getLsbD_twoPow, hf]
  · by_cases hb : x.getLsbD j = true
    · simp [hb, h]
    · simp [hb, h, BitVec.getLsbD_twoPow]
theorem bit_lem (c : Int32) (j : Nat) (hj : j < 4) : ((c >>> (nI j &&& 31)) &&& 1 = 0 ∧ ¬ ((c ^^^ (1 <<< (nI j &&& 31))) &&& (1 <<< (nI j &&& 31)) = 0)) ∨ ((c >>> (nI j &&& 31)) &&& 1 = 1 ∧ (c ^^^ (1 <<< (nI j &&& 31))) &&& (1 <<< (nI j &&& 31)) = 0) := by
  have g : (c >>> (nI j &&& 31)) &&& 1 = Int32.ofBitVec (c.toBitVec.sshiftRight j &&& 1#32) ∧ (c ^^^ (1 <<< (nI j &&& 31))) &&& (1 <<< (nI j &&& 31)) = Int32.ofBitVec ((c.toBitVec ^^^ BitVec.twoPow 32 j) &&& BitVec.twoPow 32 j) := by
    rcases (show j = 0 ∨ j = 1 ∨ j = 2 ∨ j = 3 by omega) with e | e | e | e <;> subst e <;> exact ⟨rfl, rfl⟩
  rw [g.1, g.2, bv_sh _ j hj, bv_xo _ j hj]
  by_cases hb : c.toBitVec.getLsbD j = true
  · right
    simp only [hb, if_true]
    exact ⟨rfl, rfl⟩
  · left
    simp only [hb]
    refine ⟨rfl, ?_⟩
    rcases (show j = 0 ∨ j = 1 ∨ j = 2 ∨ j = 3 by omega) with e | e | e | e <;> subst e <;> decide
def tCond (T : TT) (x y : Int32) : TT := if (T 4 >>> (x &&& 31)) &&& 1 = y then T else upd (upd T 4 (T 4 ^^^ (1 <<< (x &&& 31)))) 5 (T 5 ||| ((if y = 1 then T 6 else T 7) &&& (1 <<< (x &&& 31))))
theorem s_condition {m : Mem} {T : TT} {p : Nat} {P : Nat → TT} {n : Nat} {t q : TT} (N : Nat) (hN : 1400 ≤ N) (h : Sim m T p P n t q) (x y : Int32) : Res (fun m => f_X8_condition N m x y) (fun m => f_X9_condition N m x y) m := by
  by_cases hx : (0 ≤ x ∧ x ≤ 3) ∧ (0 ≤ y ∧ y ≤ 1)
  · obtain ⟨j, hj, e⟩ := rng (b := 3) (by decide) hx.1.1 hx.1.2
    have hy : y = 0 ∨ y = 1 := by grind
    refine h.chg N hN (tCond T x y) ((T 4 >>> (x &&& 31)) &&& 1) (fun m3 => if (((m3 43 11) >>> (x &&& 31)) &&& 1) = y then (some (m3, (((m3 43 11) >>> (x &&& 31)) &&& 1))) else (bm (f_X3_turnCondition 43 m3 (1 <<< (x &&& 31))) (fun m4 _ => some (m4, (((m3 43 11) >>> (x &&& 31)) &&& 1))))) (fun m3 => gd (inR 4 347) (if (((m3 112 (ix 4)) >>> (x &&& 31)) &&& 1) = y then (f_X9_condition_88 N m3 (((m3 112 (ix 4)) >>> (x &&& 31)) &&& 1)) else (gd (inR 4 347) (gd (inR 4 347) (lm (up m3 112 (ix 4) ((m3 112 (ix 4)) ^^^ (1 <<< (x &&& 31)))) (fun m4 => gd (inR 5 347) (if y = 1 then (f_X9_condition_81 N m4 x (((m3 112 (ix 4)) >>> (x &&& 31)) &&& 1) 5 (m4 112 (ix 5)) 6) else (f_X9_condition_81 N m4 x (((m3 112 (ix 4)) >>> (x &&& 31)) &&& 1) 5 (m4 112 (ix 5)) 7))))))))  (fun m3 => some (m3, (T 4 >>> (x &&& 31)) &&& 1)) ?_ ?_ ?_ ?_ (fun _ _ => rfl) ?_ ?_
    · show f_X8_condition N m x y = _
      unfold f_X8_condition
      rw [c_within, bm_some, if01, if_pos hx.1, c_within, bm_some, if01, if_pos hx.2]
    · intro m1 r f
      have e4 : m1 43 11 = T 4 := r.1.2.2.2.2.1
      have e6 : m1 43 13 = T 6 := r.1.2.2.2.2.2.2.1
      have e7 : m1 43 14 = T 7 := r.1.2.2.2.2.2.2.2.1
      have e5 : m1 43 12 = T 5 := r.1.2.2.2.2.2.1
      simp only [e4]
      unfold tCond
      by_cases hb : (T 4 >>> (x &&& 31)) &&& 1 = y
      · rw [if_pos hb, if_pos hb]
        exact ⟨m1, rfl, r, fun _ _ => rfl⟩
      · rw [if_neg hb, if_neg hb]
        unfold f_X3_turnCondition f_X3_turnCondition_30
        have u : ∀ v, up m1 43 11 v 43 11 = v ∧ up m1 43 11 v 43 14 = T 7 ∧ up m1 43 11 v 43 13 = T 6 ∧ up m1 43 11 v 43 12 = T 5 := fun v => by simp [up, e6, e7, e5]
        simp only [lm_def, e4, (u _).1, (u _).2.1, (u _).2.2.1, (u _).2.2.2]
        generalize hB : (1 : Int32) <<< (x &&& 31) = B
        have key : (if (T 4 ^^^ B) &&& B = 0 then some (up (up m1 43 11 (T 4 ^^^ B)) 43 12 (T 5 ||| (B &&& T 7)), ()) else some (up (up m1 43 11 (T 4 ^^^ B)) 43 12 (T 5 ||| (B &&& T 6)), ())) = some (up (up m1 43 11 (T 4 ^^^ B)) 43 12 (T 5 ||| ((if y = 1 then T 6 else T 7) &&& B)), ()) := by
          have bl := bit_lem (T 4) j (by omega)
          rw [← e, hB] at bl
          rcases bl with ⟨b1, b2⟩ | ⟨b1, b2⟩
          · rw [if_neg b2, Int32.and_comm B]
            rw [if_pos (by rcases hy with hy | hy; · exact absurd (b1.trans hy.symm) hb
                           · exact hy)]
          · rw [if_pos b2, Int32.and_comm B]
            rw [if_neg (by intro hy; exact hb (b1.trans hy.symm))]
        rw [key, bm_some]
        exact ⟨_, rfl, RS_5 _ (RS_4 _ r), fun k hk => by rw [up_ne (by omega), up_ne (by omega)]⟩
    · intro m1 _
      show f_X9_condition N m1 x y = _
      unfold f_X9_condition
      rw [m_in, bm_some, if01, if_pos hx.1, m_in, bm_some, if01, if_pos hx.2]
    · intro m2 e2
      show (if (m2 112 4 >>> (x &&& 31)) &&& 1 = y then _ else _) = _
      unfold tCond f_X9_condition_88 f_X9_condition_81
      rw [e2]
      by_cases hb : (T 4 >>> (x &&& 31)) &&& 1 = y
      · rw [if_pos hb, if_pos hb, ← e2, setC_self]
        rfl
      · rw [if_neg hb, if_neg hb]
        simp only [lm_def, gd_of (show inR 4 347 = true from rfl), gd_of (show inR 5 347 = true from rfl), gd_of (show inR 6 347 = true from rfl), gd_of (show inR 7 347 = true from rfl), show ix 4 = 4 from rfl, show ix 5 = 5 from rfl, show ix 6 = 6 from rfl, show ix 7 = 7 from rfl, up_setC, setC_at, setC_setC, e2]
        have u : ∀ v, upd T 4 v 5 = T 5 ∧ upd T 4 v 6 = T 6 ∧ upd T 4 v 7 = T 7 := fun v => by simp [upd]
        simp only [(u _).1, (u _).2.1, (u _).2.2]
        rcases hy with hy | hy <;> subst hy <;> rfl
    · unfold tCond
      split
      · exact SS.rf
      · exact (SS_lo (by decide) (by decide)).tr (SS_lo (by decide) (by decide))
    · unfold tCond
      have d := h.2.2.1.id
      split
      · exact d
      · exact ID_lo (ID_lo d (by decide) (by decide) (by decide) (by decide) (by decide)) (by decide) (by decide) (by decide) (by decide) (by decide)
  · refine h.ref 0 (by decide) ?_ (fun m1 r => ?_)
    · show f_X8_condition N m x y = _
      unfold f_X8_condition f_X8_condition_18
      rw [c_within, bm_some, if01, c_within, bm_some, if01, bm_id]
      by_cases h1 : 0 ≤ x ∧ x ≤ 3
      · rw [if_pos h1, if_neg (fun q => hx ⟨h1, q⟩)]; rfl
      · rw [if_neg h1]; rfl
    · show f_X9_condition N m1 x y = _
      unfold f_X9_condition f_X9_condition_18
      rw [m_in, bm_some, if01, m_in, bm_some, if01, bm_id]
      by_cases h1 : 0 ≤ x ∧ x ≤ 3
      · rw [if_pos h1, if_neg (fun q => hx ⟨h1, q⟩)]; rfl
      · rw [if_neg h1]; rfl
