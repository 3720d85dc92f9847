/-! one unit -/
theorem IT.j0 {T : TT} (h : IT T) : ∃ j0, T 0 = nI j0 ∧ ix (T 0) = j0 ∧ 1 ≤ j0 ∧ j0 ≤ 16 := by
  obtain ⟨j, hj, e⟩ := rng (b := 16) (x := T 0) (by decide) (by have := h.1; grind) h.1.2
  refine ⟨j, e, by rw [e]; exact ix_nI (by omega), ?_, hj⟩
  rcases Nat.eq_zero_or_pos j with z | z
  · subst z; have := h.1.1; rw [e] at this; exact absurd this (by decide)
  · exact z
/-- its fault (0: go on), the state behind it, the place, how many words the branch has, the words -/
def uF (n : Nat) (t T : TT) (i b : Nat) (W : Nat → TT) : Int32 × TT × Nat × Nat × (Nat → TT) := match uR n t i b W with
  | none => (-102, T, i, b, W)
  | some (z, cm, hd, c, W', q, ov) => if cm = true then (ftR (kC n t i hd) q ov.isSome, (if ftR (kC n t i hd) q ov.isSome = 0 then tCom T (kC n t i hd) q (ov.getD 0) else T), z, b, W') else (match FD T c (ix (T 0)) (fitB n t T W') 0 0 true with
    | none => (-113, T, z, b, W')
    | some (u, g) => (foR (decide (T (27 + 20 * u + 1) = 1)) q ov.isSome, (if foR (decide (T (27 + 20 * u + 1) = 1)) q ov.isSome = 0 then tOrd T u (ix (sfx W' c g) - 1) q (ov.getD 0) else T), z, c - 1, W'))
theorem uF_n {n : Nat} {t T : TT} {i b : Nat} {W : Nat → TT} (h : uR n t i b W = none) : uF n t T i b W = (-102, T, i, b, W) := by
  unfold uF
  rw [h]
theorem uF_c {n : Nat} {t T : TT} {i b z hd c : Nat} {W W' : Nat → TT} {q : Bool} {ov : Option Int32} (h : uR n t i b W = some (z, true, hd, c, W', q, ov)) : uF n t T i b W = (ftR (kC n t i hd) q ov.isSome, (if ftR (kC n t i hd) q ov.isSome = 0 then tCom T (kC n t i hd) q (ov.getD 0) else T), z, b, W') := by
  unfold uF
  rw [h]
  rfl
theorem uF_o0 {n : Nat} {t T : TT} {i b z hd c : Nat} {W W' : Nat → TT} {q : Bool} {ov : Option Int32} (h : uR n t i b W = some (z, false, hd, c, W', q, ov)) (hF : FD T c (ix (T 0)) (fitB n t T W') 0 0 true = none) : uF n t T i b W = (-113, T, z, b, W') := by
  unfold uF
  rw [h]
  simp only [hF]
  rfl
theorem uF_o1 {n : Nat} {t T : TT} {i b z hd c u s : Nat} {W W' : Nat → TT} {q g : Bool} {ov : Option Int32} (h : uR n t i b W = some (z, false, hd, c, W', q, ov)) (hF : FD T c (ix (T 0)) (fitB n t T W') 0 0 true = some (u, g)) (hs : s < 3) (es : sfx W' c g = nI (s + 1)) : uF n t T i b W = (foR (decide (T (27 + 20 * u + 1) = 1)) q ov.isSome, (if foR (decide (T (27 + 20 * u + 1) = 1)) q ov.isSome = 0 then tOrd T u s q (ov.getD 0) else T), z, c - 1, W') := by
  unfold uF
  rw [h]
  simp only [hF]
  rw [if_neg (by decide), es, ix_nI (by omega), Nat.add_sub_cancel]
theorem ftR_ne {k : Nat} {q hv : Bool} : ftR k q hv ≠ -222 := by
  unfold ftR
  intro h
  split at h
  · exact absurd h (by decide)
  · split at h
    · exact absurd h (by decide)
    · split at h
      · exact absurd h (by decide)
      · exact absurd h (by decide)
theorem foR_ne {v q hv : Bool} : foR v q hv ≠ -222 := by
  cases v <;> cases q <;> cases hv <;> decide
theorem uF_facts {n : Nat} {t T T' : TT} {i b z b' : Nat} {W W' : Nat → TT} {f : Int32} (hn : n ≤ 100) (hi : i ≤ n) (hb : b ≤ 5) (hw : WI n W b) (hI : IT T) (hU : uF n t T i b W = (f, T', z, b', W')) : (f ≠ 0 → T' = T ∧ f ≠ -222) ∧ (f = 0 → i ≤ z ∧ z ≤ n ∧ isEb (ch n t z) = true ∧ b' ≤ 5 ∧ WI n W' b' ∧ KP T T') := by
  cases hX : uR n t i b W with
  | none =>
    rw [uF_n hX] at hU
    simp only [Prod.mk.injEq] at hU
    obtain ⟨rfl, rfl, -⟩ := hU
    exact ⟨fun _ => ⟨rfl, by decide⟩, fun h => absurd h (by decide)⟩
  | some x =>
    obtain ⟨z2, cm, hd, c, W2, q, ov⟩ := x
    have fx := uR_facts hn hi hb hX
    cases cm with
    | true =>
      rw [uF_c hX] at hU
      simp only [Prod.mk.injEq] at hU
      obtain ⟨rfl, rfl, rfl, rfl, rfl⟩ := hU
      refine ⟨fun h => ⟨if_neg h, ftR_ne⟩, fun h => ?_⟩
      have cx := uR_com hX
      rw [if_pos h, cx.1]
      refine ⟨fx.1, fx.2.1, fx.2.2.1, hb, hw, KP_com hI _ ?_⟩
      cases hf : fmR (kC n t i hd) q with
      | true => rfl
      | false =>
        unfold ftR at h
        rw [hf, if_pos rfl] at h
        exact absurd h (by decide)
    | false =>
      obtain ⟨j0, ej, ei, hj1, hj⟩ := hI.j0
      have hc := fx.2.2.2.2 rfl
      have hwi := uR_wi hw hX
      cases hF : FD T c (ix (T 0)) (fitB n t T W2) 0 0 true with
      | none =>
        rw [uF_o0 hX hF] at hU
        simp only [Prod.mk.injEq] at hU
        obtain ⟨rfl, rfl, -⟩ := hU
        exact ⟨fun _ => ⟨rfl, by decide⟩, fun h => absurd h (by decide)⟩
      | some y =>
        obtain ⟨u, g⟩ := y
        have hF2 := hF
        rw [ei] at hF2
        obtain ⟨hu, hk, s, hs, es⟩ := sfx_ok hI ej hj hc.1 hj1 hF2
        rw [uF_o1 hX hF hs es] at hU
        simp only [Prod.mk.injEq] at hU
        obtain ⟨rfl, rfl, rfl, rfl, rfl⟩ := hU
        refine ⟨fun h => ⟨if_neg h, foR_ne⟩, fun h => ?_⟩
        rw [if_pos h]
        exact ⟨fx.1, fx.2.1, fx.2.2.1, by omega, fun a ha => hwi a (by omega), KP_ord hI (by omega) hs q _⟩
/-- what the model holds between two units -/
def MU (m : Mem) (n : Nat) (t T : TT) (i b : Nat) (W : Nat → TT) : Prop := TM m n t ∧ m 112 = T ∧ m 111 16 = nI i ∧ m 111 22 = nI b ∧ ∀ s j, s < 3 → j < b → m (117 + s) j = W s j
def NF (m m' : Mem) : Prop := (∀ k, (k < 111 ∨ k = 113 ∨ k = 114 ∨ k = 115 ∨ k = 116) → m' k = m k) ∧ ∀ j, j < 10 → m' 111 j = m 111 j
theorem NF.rf {m : Mem} : NF m m := ⟨fun _ _ => rfl, fun _ _ => rfl⟩
theorem NF.tr {a b c : Mem} (h : NF a b) (g : NF b c) : NF a c := ⟨fun k hk => (g.1 k hk).trans (h.1 k hk), fun j hj => (g.2 j hj).trans (h.2 j hj)⟩
theorem NF.tm {m m' : Mem} {n : Nat} {t : TT} (f : NF m m') (h : TM m n t) : TM m' n t := by
  unfold TM
  rw [f.1 116 (by decide), f.2 6 (by decide)]
  exact h
theorem NF.s {m : Mem} {T : TT} : NF m (setC m 112 T) := ⟨fun k hk => setC_ne (by omega), fun j _ => by rw [setC_ne (by decide)]⟩
theorem NF.u {m : Mem} {j : Nat} {v : Int32} (hj : 10 ≤ j) : NF m (up m 111 j v) := ⟨fun k hk => up_ne (by omega), fun i hi => by simp only [up]; rw [if_neg (by omega)]⟩
theorem PF.nf {m m' : Mem} (h : PF m m') : NF m m' := ⟨fun k hk => h.1 k (by omega) (by omega), fun j hj => h.2 j (by omega)⟩
theorem QF.nf {m m' : Mem} (h : QF m m') : NF m m' := ⟨fun k hk => h.1 k (by omega) (by omega) (by omega), fun j hj => h.2 j (by omega) (by omega)⟩
theorem m_unit1 {m : Mem} {n N : Nat} {t T T' : TT} {i b z b' : Nat} {W W' : Nat → TT} {f : Int32} (hN : 200 + MM 17 ≤ N) (hI : IT T) (hi : i ≤ n) (hb : b ≤ 5) (hw : WI n W b) (h : MU m n t T i b W) (hU : uF n t T i b W = (f, T', z, b', W')) : ∃ m' r, f_X9_doUnit N m = some (m', r) ∧ NF m m' ∧ ((f ≠ 0 ∧ r = f ∧ m' 112 = T) ∨ (f = 0 ∧ ((r = 0 ∧ m' 112 = T') ∨ (r = -222 ∧ m' 112 = T ∧ T' = tFault T (-222))) ∧ m' 111 16 = nI z ∧ m' 111 22 = nI b' ∧ ∀ s j, s < 3 → j < b' → m' (117 + s) j = W' s j)) := by
  obtain ⟨tm, e112, e16, e22, eW⟩ := h
  have hn := tm.2.2
  unfold f_X9_doUnit
  rcases m_unit (N := N) (by omega) tm e16 hi e22 hb eW with ⟨z2, cm, hd, c, W2, q, ov, m1, a1, a2, a3, a4, a5, a6, a7, a8, a9, a10⟩ | ⟨a1, m1, a2, a3⟩
  · have fx := uR_facts hn hi hb a1
    have t1 : m1 112 = T := by rw [a10.1 112 (by decide) (by decide), e112]
    rw [a2, bm_some, if_neg (show ¬ (1 : Int32) = 0 by decide), a4]
    cases cm with
    | true =>
      rw [if_neg (show ¬ b2i true = 0 by decide)]
      rw [uF_c a1] at hU
      simp only [Prod.mk.injEq] at hU
      obtain ⟨rfl, rfl, rfl, rfl, rfl⟩ := hU
      have cx := uR_com a1
      have hd1 := (fx.2.2.2.1 rfl).1
      have cw : CW (kC n t i hd) (m1 111 18) := by
        rw [(a5 rfl).1]
        exact code_cw cx.2.2 (by omega)
      have e22' : m1 111 22 = nI b := by rw [a10.2 22 (by omega), e22]
      have words : ∀ s j, s < 3 → j < b → m1 (117 + s) j = W2 s j := fun s j hs hj => a7 s j hs (by rw [cx.2.1]; exact hj)
      rcases m_doUnitC (N := N) (by omega) t1 hI cw a4 a8 a9 with ⟨y1, y2⟩ | ⟨y1, y2⟩
      · exact ⟨m1, _, y2, a10.nf, Or.inl ⟨y1, rfl, t1⟩⟩
      · rw [if_pos y1]
        rcases y2 with y2 | ⟨y2, y3⟩
        · exact ⟨_, _, y2, a10.nf.tr NF.s, Or.inr ⟨y1, Or.inl ⟨rfl, setC_at⟩, by rw [setC_ne (by decide), a3], by rw [setC_ne (by decide), e22'], fun s j hs hj => by rw [setC_ne (by omega)]; exact words s j hs hj⟩⟩
        · exact ⟨m1, _, y2, a10.nf, Or.inr ⟨y1, Or.inr ⟨rfl, t1, y3⟩, a3, e22', words⟩⟩
    | false =>
      rw [if_pos (show b2i false = 0 by decide)]
      show ∃ m' r, dUO N m1 = some (m', r) ∧ _
      obtain ⟨j0, ej, ei, hj1, hj⟩ := hI.j0
      have hc := a6 rfl
      have mi : MI m1 n t T c W2 := ⟨a10.tm tm, t1, hc.1, a7⟩
      rcases m_doUnitO hN hI ej hj1 hj hc.2.2 hc.2.1 (uR_wi hw a1) mi (by rw [a4]; rfl) a8 a9 with ⟨y1, m2, y2, y3, y4⟩ | ⟨u, g, s, m2, y1, hs, es, y2, y3, y4⟩
      · rw [← ei] at y1
        rw [uF_o0 a1 y1] at hU
        simp only [Prod.mk.injEq] at hU
        obtain ⟨rfl, rfl, -⟩ := hU
        exact ⟨m2, _, y2, a10.nf.tr y3.nf, Or.inl ⟨by decide, rfl, y4⟩⟩
      · rw [← ei] at y1
        rw [uF_o1 a1 y1 hs es] at hU
        simp only [Prod.mk.injEq] at hU
        obtain ⟨rfl, rfl, rfl, rfl, rfl⟩ := hU
        have nf := a10.nf.tr y2.nf
        have words : ∀ s j, s < 3 → j < c - 1 → m2 (117 + s) j = W2 s j := fun s j hs hj => by rw [y2.1 _ (by omega) (by omega) (by omega)]; exact a7 s j hs (by omega)
        have p16 : m2 111 16 = nI z2 := by rw [y2.2 16 (by decide) (by decide), a3]
        rcases y4 with ⟨x1, x2, x3⟩ | ⟨x1, x2⟩
        · exact ⟨m2, _, x2, nf, Or.inl ⟨x1, rfl, x3⟩⟩
        · rw [if_pos x1]
          rcases x2 with ⟨x2, x3⟩ | ⟨x2, x3, x4⟩
          · exact ⟨m2, _, x2, nf, Or.inr ⟨x1, Or.inl ⟨rfl, x3⟩, p16, y3, words⟩⟩
          · exact ⟨m2, _, x2, nf, Or.inr ⟨x1, Or.inr ⟨rfl, x3, x4⟩, p16, y3, words⟩⟩
  · rw [a2, bm_some, if_pos rfl]
    rw [uF_n a1] at hU
    simp only [Prod.mk.injEq] at hU
    obtain ⟨rfl, rfl, -⟩ := hU
    exact ⟨m1, _, rfl, a3.nf, Or.inl ⟨by decide, rfl, by rw [a3.1 112 (by decide) (by decide), e112]⟩⟩
