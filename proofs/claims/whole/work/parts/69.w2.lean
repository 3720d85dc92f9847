/-- the fault that ends the message, for an order -/
def foR (vn : Bool) (q : Bool) (hv : Bool) : Int32 := if hv = true ∧ ¬ (vn = true ∧ q = false) then -108 else if (vn = true ∧ q = false) ∧ hv = false then -109 else 0
theorem c_perfO {m : Mem} {n : Nat} {t T : TT} {N c j0 : Nat} {W : Nat → TT} (hN : 200 ≤ N) (hI : IT T) (ej : T 0 = nI j0) (hj1 : 1 ≤ j0) (hj : j0 ≤ 16) (hc : c ≤ 6) (hc1 : 1 ≤ c) (hw : WI n W c) (ht : TC m n t) (hr : RSt m 43 T) (hn : RNd m T) (h39 : m 39 3 = nI c) (hW : ∀ s a, s < 3 → a < c → m (40 + s) a = W s a) {q : Bool} {ov : Option Int32} (h6 : m 38 6 = b2i q) (ho : OV m ov) (hk0 : ∀ u g, FD T c j0 (fitB n t T W) 0 0 true = some (u, g) → u < j0 ∧ ∃ s, s < 3 ∧ sfx W c g = nI (s + 1)) : (FD T c j0 (fitB n t T W) 0 0 true = none ∧ ∃ m', f_X8_performOrder N m = some (m', -113) ∧ ∀ k, k ≠ 5 → k ≠ 3 → m' k = m k) ∨ (∃ u g s m', FD T c j0 (fitB n t T W) 0 0 true = some (u, g) ∧ u < j0 ∧ s < 3 ∧ sfx W c g = nI (s + 1) ∧ f_X8_performOrder N m = some (m', foR (decide (T (27 + 20 * u + 1) = 1)) q ov.isSome) ∧ RSt m' 43 (if foR (decide (T (27 + 20 * u + 1) = 1)) q ov.isSome = 0 then tOrd T u s q (ov.getD 0) else T) ∧ m' 38 2 = nI (c - 1) ∧ (∀ j, j ≠ 2 → m' 38 j = m 38 j) ∧ ∀ k, k ≠ 5 → k ≠ 3 → k ≠ 38 → (k < 43 ∨ 53 < k) → m' k = m k) := by
  have hfl := (FD_fl (T := T) (c := c) (fit := fitB n t T W) hj (v := 0) (a := 0) (by omega) true false).2 (by omega)
  have e43 : m 43 0 = nI j0 := by rw [← ej]; exact hr.1.1
  obtain ⟨m1, b1, b2, b3⟩ := c_find hN hI ej hj1 hj hc hc1 hw ht hn h39 hW
  have r1 : RSt m1 43 T := hr.fr (fun k hk => b2 _ (by omega) (by omega))
  have n1 : RNd m1 T := hn.fr (fun k hk => ⟨b2 _ (by omega) (by omega), b2 _ (by omega) (by omega)⟩)
  unfold f_X8_performOrder
  rw [e43, b1, bm_some, ← hfl, c_isNode r1 hI, bm_some, if01]
  cases hF : FD T c j0 (fitB n t T W) 0 0 true with
  | none =>
    left
    refine ⟨rfl, m1, ?_, b2⟩
    rw [if_neg (show ¬ (0 ≤ rI none ∧ rI none < T 0) from fun z => absurd z.1 (by decide))]
  | some z =>
    obtain ⟨u, g⟩ := z
    right
    obtain ⟨hu, s, hs, es⟩ := hk0 u g hF
    have esx : m1 3 3 = nI (s + 1) := by rw [b3 u g hF, es]
    have hu0 : 0 ≤ nI u ∧ nI u < T 0 := ⟨nI_le (a := 0) (by omega) (by omega), by rw [ej]; exact nI_lt hu (by omega)⟩
    have ec : (nI c - 1 : Int32) = nI (c - 1) := by rw [show (1 : Int32) = nI 1 from rfl, pk_sub (by omega)]
    refine ⟨u, g, s, ?_⟩
    rw [if_pos (show 0 ≤ rI (some (u, g)) ∧ rI (some (u, g)) < T 0 from hu0)]
    unfold f_X6_keepBranch
    rw [lm_def, bm_some, b2 39 (by decide) (by decide), h39, ec, if_neg (nI_pos (by omega))]
    generalize hm2 : up m1 38 2 (nI (c - 1)) = m2
    have f2 : ∀ k, k ≠ 38 → m2 k = m1 k := fun k hk => by rw [← hm2, up_ne hk]
    have g2 : ∀ j, j ≠ 2 → m2 38 j = m 38 j := fun j hj => by
      have := b2 38 (by decide) (by decide)
      rw [← hm2, ← this]
      simp [up, hj]
    have k2 : m2 38 2 = nI (c - 1) := by rw [← hm2]; simp [up]
    have r2 : RSt m2 43 T := r1.fr (fun k hk => f2 _ (by omega))
    have n2 : RNd m2 T := n1.fr (fun k hk => ⟨f2 _ (by omega), f2 _ (by omega)⟩)
    have hv := c_isValue r2 n2 hI (nI u)
    rw [ix_nI (by omega)] at hv
    have hv2 : (if (0 ≤ nI u ∧ nI u < T 0) ∧ T (27 + 20 * u + 1) = 1 then (1 : Int32) else 0) = b2i (decide (T (27 + 20 * u + 1) = 1)) := by
      by_cases z : T (27 + 20 * u + 1) = 1 <;> simp [z, hu0, b2i]
    rw [hv2] at hv
    have h62 : m2 38 6 = b2i q := by rw [g2 6 (by decide), h6]
    have h72 : m2 38 7 = b2i ov.isSome := by rw [g2 7 (by decide)]; exact OV_7 ho
    show ∃ m', _ ∧ u < j0 ∧ s < 3 ∧ _ ∧ bm (f_X8_isValueNode m2 (nI u)) _ = _ ∧ _
    rw [hv, bm_some, c_vf h62 h72, bm_some]
    generalize hvn : decide (T (27 + 20 * u + 1) = 1) = vn at *
    change ∃ m', _ ∧ u < j0 ∧ s < 3 ∧ _ ∧ (if foR vn q ov.isSome = 0 then _ else some (m2, foR vn q ov.isSome)) = _ ∧ _
    have frame : ∀ m', SF m2 m' → m' 38 2 = nI (c - 1) ∧ (∀ j, j ≠ 2 → m' 38 j = m 38 j) ∧ ∀ k, k ≠ 5 → k ≠ 3 → k ≠ 38 → (k < 43 ∨ 53 < k) → m' k = m k := fun m' sf => ⟨by rw [sf 38 (by omega), k2], fun j hj => by rw [sf 38 (by omega), g2 j hj], fun k h1 h2 h3 h4 => by rw [sf k h4, f2 k h3, b2 k h1 h2]⟩
    by_cases hz : foR vn q ov.isSome = 0
    · rw [if_pos hz, if_pos hz, h62, hz]
      unfold f_X8_performOrder_110 f_X8_performOrder_171
      have hnd := n2 u (by rw [ej, ix_nI (by omega)]; exact hu) (by omega)
      have rep : ∀ x, ∃ m', bm (f_X3_reply 43 m2 x) (fun m1 _ => some (m1, (0 : Int32))) = some (m', 0) ∧ RSt m' 43 (tAnswer T x) ∧ SF m2 m' := by
        intro x
        obtain ⟨m', a1, a2, a3⟩ := c_reply m2 T x r2 hI.2.2.2.1 hI.2.2.1
        rw [a1, bm_some]
        exact ⟨m', rfl, a2, a3⟩
      have e33 : m2 3 3 = nI (s + 1) := by rw [f2 3 (by decide), esx]
      simp only [show rI (some (u, g)) = nI u from rfl]
      unfold tOrd
      have hvd : vn = true ↔ T (27 + 20 * u + 1) = 1 := by rw [← hvn]; exact decide_eq_true_iff
      cases q with
      | true =>
        rw [if_neg (show ¬ b2i true = 0 by decide), if_pos (show true = true from rfl)]
        cases vn with
        | true =>
          rw [if_neg (show ¬ b2i true = 0 by decide), if_pos (hvd.mp rfl), e33, c_numberOf m2 43 (by omega) hs, bm_some, show m2 (43 + 4) (3 * u + s) = _ from r2.2.2.2.2.2.2.2 u s (by omega) hs]
          obtain ⟨m', a1, a2, a3⟩ := rep (T (27 + 20 * u + 6 + s))
          exact ⟨m', trivial, hu, hs, es, a1, a2, frame m' a3⟩
        | false =>
          rw [if_pos (show b2i false = 0 by decide), if_neg (fun z => by simpa using hvd.mpr z), gd_of (inR_nI (by omega) (by decide)), ix_nI (by omega), show m2 46 u = _ from r2.2.2.2.2.2.2.1 u (by omega)]
          obtain ⟨m', a1, a2, a3⟩ := rep (T (27 + 20 * u + 9))
          exact ⟨m', trivial, hu, hs, es, a1, a2, frame m' a3⟩
      | false =>
        rw [if_pos (show b2i false = 0 by decide), if_neg (show ¬ false = true by decide)]
        cases vn with
        | true =>
          rw [if_neg (show ¬ b2i true = 0 by decide), if_pos (hvd.mp rfl), e33]
          cases ov with
          | none => exact absurd hz (by decide)
          | some v =>
            have e8 : m2 38 8 = v := by rw [g2 8 (by decide)]; exact ho.2
            obtain ⟨m', a1, a2, a3⟩ := c_setNum r2 hI.2.2.2.1 (j := u) (by omega) hs v
            rw [e8, a1, bm_some]
            exact ⟨m', trivial, hu, hs, es, rfl, a2, frame m' a3⟩
        | false =>
          rw [if_pos (show b2i false = 0 by decide), gd_of (inR_nI (by omega) (by decide)), ix_nI (by omega), hnd.2.1, if_neg (show ¬ T (27 + 20 * u + 1) = 1 from fun z => by simpa using hvd.mpr z)]
          obtain ⟨m', a1, a2, a3⟩ := c_act r2 hI (j := u) (by omega) (decide (T (27 + 20 * u + 1) = 3))
          by_cases k3 : T (27 + 20 * u + 1) = 3
          · rw [if_pos k3]
            rw [show b2i (decide (T (27 + 20 * u + 1) = 3)) = 1 by rw [decide_eq_true k3]; rfl] at a1
            rw [a1, bm_some]
            exact ⟨m', trivial, hu, hs, es, rfl, a2, frame m' a3⟩
          · rw [if_neg k3]
            rw [show b2i (decide (T (27 + 20 * u + 1) = 3)) = 0 by rw [decide_eq_false k3]; rfl] at a1
            rw [a1, bm_some]
            exact ⟨m', trivial, hu, hs, es, rfl, a2, frame m' a3⟩
    · rw [if_neg hz, if_neg hz]
      exact ⟨m2, rfl, hu, hs, es, rfl, r2, frame m2 SF.rf⟩
