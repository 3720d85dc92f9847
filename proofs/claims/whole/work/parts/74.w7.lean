/-! the model does an order -/
def dUO (N : Nat) (m1 : Mem) : Option (Mem × Int32) := bm (f_X9_find N m1) (fun m2 r2 => if r2 = (-10001) then (f_X9_doUnit_69 N m2 r2 (-10001)) else (bm (f_X9_ofNode m2 r2 1) (fun m3 r3 => if r3 = 1 then (if (m3 111 19) = 0 then (f_X9_doUnit_69 N m3 r2 1) else (f_X9_doUnit_68 N m3 r2)) else (f_X9_doUnit_68 N m3 r2))))
/-- only the state, the finder's rows, and three of the model's own numbers moved -/
def QF (m m' : Mem) : Prop := (∀ k, k ≠ 111 → k ≠ 112 → (k < 120 ∨ 123 < k) → m' k = m k) ∧ ∀ j, j ≠ 15 → j ≠ 22 → m' 111 j = m 111 j
theorem GF.qf {m m' : Mem} (h : GF m m') : QF m m' := ⟨fun k a _ c => h.1 k a c, fun j a _ => h.2 j a⟩
theorem m_doNode {m : Mem} {c s' : Nat} {g : Bool} {W : Nat → TT} (x : Int32) (hs : s' < 18) (h15 : m 111 15 = nI (s' + 1)) (h122 : m 122 s' = b2i g) (h10 : m 111 10 = nI c) (hc1 : 1 ≤ c) (hc : c ≤ 6) (hW : m 119 (c - 1) = W 2 (c - 1)) : f_X9_doNode m x = f_X9_doNode_43 m x (sfx W c g) := by
  have e1 : (nI (s' + 1) - 1 : Int32) = nI s' := by rw [show (1 : Int32) = nI 1 from rfl, pk_sub (by omega), Nat.add_sub_cancel]
  have e2 : (nI c - 1 : Int32) = nI (c - 1) := by rw [show (1 : Int32) = nI 1 from rfl, pk_sub (by omega)]
  unfold f_X9_doNode f_X9_doNode_42 sfx
  rw [h15, e1, gd_of (inR_nI (by omega) (by decide)), ix_nI (by omega), h122]
  cases g with
  | false => rw [if_pos (show b2i false = 0 by decide)]; rfl
  | true =>
    rw [if_neg (show ¬ b2i true = 0 by decide), h10, e2, gd_of (inR_nI (by omega) (by decide)), ix_nI (by omega), hW, if_pos (show true = true from rfl)]
    by_cases hw : W 2 (c - 1) < 1
    · rw [if_pos hw, if_pos (show W 2 (c - 1) ≤ 0 by grind)]
    · rw [if_neg hw, if_neg (show ¬ W 2 (c - 1) ≤ 0 by grind), gd_of (inR_nI (by omega) (by decide))]
theorem m_doUnitO {m : Mem} {n : Nat} {t T : TT} {N c j0 : Nat} {W : Nat → TT} {q : Bool} {ov : Option Int32} (hN : 200 + MM 17 ≤ N) (hI : IT T) (ej : T 0 = nI j0) (hj1 : 1 ≤ j0) (hj : j0 ≤ 16) (hc : c ≤ 6) (hc1 : 1 ≤ c) (hw : WI n W c) (mi : MI m n t T c W) (h17 : m 111 17 = 0) (h19 : m 111 19 = b2i q) (ho : MV m ov) : (FD T c j0 (fitB n t T W) 0 0 true = none ∧ ∃ m', dUO N m = some (m', -113) ∧ QF m m' ∧ m' 112 = T) ∨ (∃ u g s m', FD T c j0 (fitB n t T W) 0 0 true = some (u, g) ∧ s < 3 ∧ sfx W c g = nI (s + 1) ∧ QF m m' ∧ m' 111 22 = nI (c - 1) ∧ ((foR (decide (T (27 + 20 * u + 1) = 1)) q ov.isSome ≠ 0 ∧ dUO N m = some (m', foR (decide (T (27 + 20 * u + 1) = 1)) q ov.isSome) ∧ m' 112 = T) ∨ (foR (decide (T (27 + 20 * u + 1) = 1)) q ov.isSome = 0 ∧ ((dUO N m = some (m', 0) ∧ m' 112 = tOrd T u s q (ov.getD 0)) ∨ (dUO N m = some (m', -222) ∧ m' 112 = T ∧ tOrd T u s q (ov.getD 0) = tFault T (-222)))))) := by
  have hfl := (FD_fl (T := T) (c := c) (fit := fitB n t T W) hj (v := 0) (a := 0) (by omega) true false).2 (by omega)
  obtain ⟨m2, a1, a2, a3⟩ := m_find hN hI ej hj1 hj hc hw mi
  have mi2 := mi.of a2
  have a3' : ∀ u g, FD T c j0 (fitB n t T W) 0 0 true = some (u, g) → ∃ s', s' < 18 ∧ m2 111 15 = nI (s' + 1) ∧ m2 122 s' = b2i g := by rw [hfl]; exact a3
  have ed : dUO N m = (if rI (FD T c j0 (fitB n t T W) 0 0 true) = (-10001) then (f_X9_doUnit_69 N m2 (rI (FD T c j0 (fitB n t T W) 0 0 true)) (-10001)) else (bm (f_X9_ofNode m2 (rI (FD T c j0 (fitB n t T W) 0 0 true)) 1) (fun m3 r3 => if r3 = 1 then (if (m3 111 19) = 0 then (f_X9_doUnit_69 N m3 (rI (FD T c j0 (fitB n t T W) 0 0 true)) 1) else (f_X9_doUnit_68 N m3 (rI (FD T c j0 (fitB n t T W) 0 0 true)))) else (f_X9_doUnit_68 N m3 (rI (FD T c j0 (fitB n t T W) 0 0 true)))))) := by
    unfold dUO
    rw [a1, bm_some, ← hfl]
  cases hF : FD T c j0 (fitB n t T W) 0 0 true with
  | none =>
    left
    rw [hF, if_pos (show rI none = -10001 from rfl)] at ed
    unfold f_X9_doUnit_69 f_X9_doUnit_70 at ed
    rw [if_pos rfl] at ed
    exact ⟨rfl, m2, ed, a2.qf, mi2.2.1⟩
  | some z =>
    obtain ⟨u, g⟩ := z
    right
    obtain ⟨hu, hk, s, hs, es⟩ := sfx_ok hI ej hj hc1 hj1 hF
    obtain ⟨s', hs', b1, b2⟩ := a3' u g hF
    have o := m_ofNode m2 (n := u) (w := 1) (by omega) (by decide)
    rw [mi2.2.1] at o
    rw [hF, show rI (some (u, g)) = nI u from rfl, if_neg (show ¬ nI u = -10001 from fun e => absurd (show (nI u : Int32) < 0 by rw [e]; decide) (nI_pos (by omega))), show f_X9_ofNode m2 (nI u) 1 = _ from o, bm_some] at ed
    have f19 : m2 111 19 = b2i q := by rw [a2.2 19 (by decide), h19]
    have f17 : m2 111 17 = 0 := by rw [a2.2 17 (by decide), h17]
    have f20 : m2 111 20 = b2i ov.isSome := by
      rw [a2.2 20 (by decide)]
      cases ov with
      | none => exact ho
      | some v => exact ho.1
    generalize hvn : decide (T (27 + 20 * u + 1) = 1) = vn
    have hvd : vn = true ↔ T (27 + 20 * u + 1) = 1 := by rw [← hvn]; exact decide_eq_true_iff
    generalize hwd : decide (vn = true ∧ q = false) = w
    have hw1 : w = true ↔ (vn = true ∧ q = false) := by rw [← hwd]; exact decide_eq_true_iff
    have ed2 : dUO N m = f_X9_doUnit_70 N m2 (nI u) (b2i w) := by
      rw [ed, f19]
      unfold f_X9_doUnit_68 f_X9_doUnit_69
      by_cases z : T (27 + 20 * u + 1) = 1
      · rw [if_pos z]
        cases q with
        | true =>
          rw [if_neg (show ¬ b2i true = 0 by decide)]
          have : w = false := by
            cases w with
            | false => rfl
            | true => exact absurd (hw1.mp rfl).2 (by decide)
          rw [this]; rfl
        | false =>
          rw [if_pos (show b2i false = 0 by decide)]
          rw [hw1.mpr ⟨hvd.mpr z, rfl⟩]; rfl
      · rw [if_neg z]
        have : w = false := by
          cases w with
          | false => rfl
          | true => exact absurd (hvd.mp (hw1.mp rfl).1) z
        rw [this]; rfl
    generalize hm3 : up m2 111 22 (nI (c - 1)) = m3
    have g3 : ∀ k, k ≠ 111 → m3 k = m2 k := fun k h => by rw [← hm3, up_ne h]
    have g4 : ∀ j, j ≠ 22 → m3 111 j = m2 111 j := fun j h => by rw [← hm3]; simp [up, h]
    have g22 : m3 111 22 = nI (c - 1) := by rw [← hm3]; simp [up]
    have ec : (nI c - 1 : Int32) = nI (c - 1) := by rw [show (1 : Int32) = nI 1 from rfl, pk_sub (by omega)]
    have qf3 : QF m m3 := ⟨fun k h1 h2 h3 => by rw [g3 k h1, a2.1 k h1 h3], fun j h1 h2 => by rw [g4 j h2, a2.2 j h1]⟩
    have e112 : m3 112 = T := by rw [g3 112 (by decide), mi2.2.1]
    have ed3 : dUO N m = f_X9_doUnit_97 N m3 (nI u) (b2i w) := by
      rw [ed2]
      unfold f_X9_doUnit_70
      rw [if_neg (show ¬ b2i w = -10001 by cases w <;> decide), f17, if_pos rfl, lm_def, mi2.2.2.1, ec, hm3]
    have dn : f_X9_doNode m3 (nI u) = f_X9_doNode_43 m3 (nI u) (nI (s + 1)) := by
      rw [← es]
      exact m_doNode (nI u) hs' (by rw [g4 15 (by decide), b1]) (by rw [g3 122 (by decide), b2]) (by rw [g4 10 (by decide), mi2.2.2.1]) hc1 hc (by rw [g3 119 (by decide)]; exact mi2.2.2.2 2 (c - 1) (by decide) (by omega))
    have d43 : ov.isSome = w → f_X9_doNode_43 m3 (nI u) (nI (s + 1)) = some (setC m3 112 (tOrd T u s q (ov.getD 0)), 0) ∨ (f_X9_doNode_43 m3 (nI u) (nI (s + 1)) = some (m3, -222) ∧ tOrd T u s q (ov.getD 0) = tFault T (-222)) := by
      intro e
      refine m_doNode43 e112 hI (by omega) hs (by rw [g4 19 (by decide), f19]) hk (fun z hq => ?_)
      have hw2 : w = true := hw1.mpr ⟨hvd.mpr z, hq⟩
      cases ov with
      | none => rw [hw2] at e; simp at e
      | some v => rw [g4 21 (by decide), a2.2 21 (by decide)]; exact ho.2
    have eft : foR vn q ov.isSome = (if ov.isSome = true ∧ ¬ w = true then -108 else if w = true ∧ ov.isSome = false then -109 else 0) := by
      unfold foR
      simp only [hw1]
    have fin : ∀ T', QF m (setC m3 112 T') ∧ setC m3 112 T' 111 22 = nI (c - 1) ∧ setC m3 112 T' 112 = T' := fun T' => ⟨⟨fun k h1 h2 h3 => by rw [setC_ne h2, qf3.1 k h1 h2 h3], fun j h1 h2 => by rw [setC_ne (by decide), qf3.2 j h1 h2]⟩, by rw [setC_ne (by decide), g22], setC_at⟩
    have same : ov.isSome = w → dUO N m = f_X9_doNode m3 (nI u) := by
      intro e
      rw [ed3]
      unfold f_X9_doUnit_97 f_X9_doUnit_111
      rw [g4 20 (by decide), f20, e, g4 17 (by decide), f17]
      cases w with
      | true => rw [if_pos (show b2i true = 1 by decide), if_pos (show b2i true = 1 by decide), if_pos rfl, bm_id]
      | false => rw [if_neg (show ¬ b2i false = 1 by decide), if_pos (show b2i false = 0 by decide), if_pos rfl, bm_id]
    by_cases e : ov.isSome = w
    · have f0 : foR vn q ov.isSome = 0 := by
        rw [eft, e]
        cases w <;> simp
      rcases d43 e with z | ⟨z1, z2⟩
      · obtain ⟨p1, p2, p3⟩ := fin (tOrd T u s q (ov.getD 0))
        exact ⟨u, g, s, _, rfl, hs, es, p1, p2, Or.inr ⟨by rw [hvn]; exact f0, Or.inl ⟨by rw [same e, dn, z], p3⟩⟩⟩
      · exact ⟨u, g, s, m3, rfl, hs, es, qf3, g22, Or.inr ⟨by rw [hvn]; exact f0, Or.inr ⟨by rw [same e, dn, z1], e112, z2⟩⟩⟩
    · refine ⟨u, g, s, m3, rfl, hs, es, qf3, g22, Or.inl ?_⟩
      rw [hvn, eft, ed3]
      unfold f_X9_doUnit_97 f_X9_doUnit_111
      rw [g4 20 (by decide), f20]
      cases hv : ov.isSome <;> cases w
      · exact absurd hv e
      · refine ⟨by simp, ?_, e112⟩
        rfl
      · refine ⟨by simp, ?_, e112⟩
        rfl
      · exact absurd hv e
