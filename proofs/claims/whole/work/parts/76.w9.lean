/-! one unit, the class -/
/-- what the class holds between two units -/
def CU (m : Mem) (n : Nat) (t T : TT) (i b : Nat) (W : Nat → TT) : Prop := TC m n t ∧ RSt m 43 T ∧ RNd m T ∧ m 38 1 = nI i ∧ m 38 2 = nI b ∧ ∀ s j, s < 3 → j < b → m (40 + s) j = W s j
def HF (m m' : Mem) : Prop := ∀ k, k ≠ 3 → k ≠ 5 → (k < 38 ∨ 53 < k) → m' k = m k
theorem HF.rf {m : Mem} : HF m m := fun _ _ _ _ => rfl
theorem HF.tr {a b c : Mem} (h : HF a b) (g : HF b c) : HF a c := fun k h1 h2 h3 => (g k h1 h2 h3).trans (h k h1 h2 h3)
theorem HF.tc {m m' : Mem} {n : Nat} {t : TT} (f : HF m m') (h : TC m n t) : TC m' n t := by
  unfold TC
  rw [f 1 (by decide) (by decide) (by decide), f 2 (by decide) (by decide) (by decide)]
  exact h
theorem HF.nd {m m' : Mem} {T : TT} (f : HF m m') (h : RNd m T) : RNd m' T := h.fr (fun k hk => ⟨f _ (by omega) (by omega) (by omega), f _ (by omega) (by omega) (by omega)⟩)
theorem c_unit1 {m : Mem} {n N k : Nat} {t T T' : TT} {i b z b' : Nat} {W W' : Nat → TT} {f x1 : Int32} {R : Mem → Int32 → Int32 → Option (Mem × Int32)} (hN : 200 ≤ N) (hI : IT T) (hi : i ≤ n) (hb : b ≤ 5) (hw : WI n W b) (hk : k ≤ 100) (h : CU m n t T i b W) (hU : uF n t T i b W = (f, T', z, b', W')) : ∃ m', f_X8_sends_22b N R m x1 (nI k) = f_X8_sends_67 N R m' x1 (nI k) f ∧ RSt m' 43 T' ∧ HF m m' ∧ (f = 0 → m' 38 1 = nI z ∧ m' 38 2 = nI b' ∧ ∀ s j, s < 3 → j < b' → m' (40 + s) j = W' s j) := by
  obtain ⟨tc, rs, nd, e1, e2, eW⟩ := h
  have hn := tc.2.2
  unfold f_X8_sends_22b
  rw [if_neg (show ¬ (100 : Int32) < nI k from fun q => absurd ((nI_ltI (a := 100) (by decide) (by omega)).mp q) (by omega))]
  rcases c_read hN tc e1 hi e2 hb eW with ⟨z2, cm, hd, c, W2, q, ov, m1, a1, a2, a3, a4, a5, a6, a7, a8, a9, a10, a11, a12, a13, a14⟩ | ⟨a1, m1, a2, a3⟩
  · rw [a2, bm_some, if_neg (show ¬ (1 : Int32) = 0 by decide), a8]
    have hf1 : HF m m1 := fun k h1 h2 h3 => a14 k (by omega)
    have rs1 : RSt m1 43 T := rs.fr (fun c hc => a14 _ (by omega))
    have tc1 := hf1.tc tc
    cases cm with
    | true =>
      rw [if_neg (show ¬ b2i true = 0 by decide)]
      rw [uF_c a1] at hU
      simp only [Prod.mk.injEq] at hU
      obtain ⟨rfl, rfl, rfl, rfl, rfl⟩ := hU
      obtain ⟨b4, b5, b6, b7, b8⟩ := a9 rfl
      obtain ⟨m2, d1, d2, d3⟩ := c_perfC hN tc1 rs1 hI b4 b5 (by omega) (by omega) a12 a13
      rw [d1, bm_some]
      refine ⟨m2, rfl, d2, hf1.tr (fun k h1 h2 h3 => d3 k (by omega)), fun _ => ⟨by rw [d3 38 (by decide), a3], by rw [d3 38 (by decide), a7], fun s j hs hj => ?_⟩⟩
      rw [d3 _ (by omega)]
      exact a11 s j hs (by rw [b8]; exact hj)
    | false =>
      rw [if_pos (show b2i false = 0 by decide)]
      obtain ⟨j0, ej, ei, hj1, hj⟩ := hI.j0
      have hc := a10 rfl
      rcases c_perfO (q := q) (ov := ov) hN hI ej hj1 hj hc.2.2 hc.2.1 (uR_wi hw a1) tc1 rs1 (hf1.nd nd) hc.1 a11 a12 a13 (fun u g hF => by
        obtain ⟨p1, -, p3⟩ := sfx_ok hI ej hj hc.2.1 hj1 hF
        exact ⟨p1, p3⟩) with ⟨y1, m2, y2, y3⟩ | ⟨u, g, s, m2, y1, hu, hs, es, y2, y3, y4, y5, y6⟩
      · rw [← ei] at y1
        rw [uF_o0 a1 y1] at hU
        simp only [Prod.mk.injEq] at hU
        obtain ⟨rfl, rfl, -⟩ := hU
        rw [y2, bm_some]
        exact ⟨m2, rfl, rs1.fr (fun c hc => y3 _ (by omega) (by omega)), hf1.tr (fun k h1 h2 h3 => y3 k h2 h1), fun h => absurd h (by decide)⟩
      · rw [← ei] at y1
        rw [uF_o1 a1 y1 hs es] at hU
        simp only [Prod.mk.injEq] at hU
        obtain ⟨rfl, rfl, rfl, rfl, rfl⟩ := hU
        rw [y2, bm_some]
        refine ⟨m2, rfl, y3, hf1.tr (fun k h1 h2 h3 => y6 k h2 h1 (by omega) (by omega)), fun _ => ⟨by rw [y5 1 (by decide), a3], y4, fun s j hs hj => ?_⟩⟩
        rw [y6 _ (by omega) (by omega) (by omega) (by omega)]
        exact a11 s j hs (by omega)
  · rw [a2, bm_some, if_pos rfl]
    rw [uF_n a1] at hU
    simp only [Prod.mk.injEq] at hU
    obtain ⟨rfl, rfl, -⟩ := hU
    exact ⟨m1, rfl, rs.fr (fun c hc => a3 _ (by omega)), fun k h1 h2 h3 => a3 k (by omega), fun h => absurd h (by decide)⟩
