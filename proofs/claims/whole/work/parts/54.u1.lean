/-! finding, as the class does it -/
theorem bv_sh8 (x : BitVec 32) (j : Nat) (hj : j < 8) : x.sshiftRight j &&& 1#32 = if x.getLsbD j then 1#32 else 0#32 := by
  apply BitVec.eq_of_getLsbD_eq
  intro i hi
  by_cases h : i = 0
  · subst h
    rw [BitVec.getLsbD_and, BitVec.getLsbD_sshiftRight]
    by_cases hb : x.getLsbD j = true
    · simp [hb, show j < 32 by omega]
    · have hf : x[j] = false := by
        rw [← BitVec.getLsbD_eq_getElem (by omega)]
        simpa using hb
      simp [show j < 32 by omega, hf]
  · rw [BitVec.getLsbD_and]
    have : (1#32).getLsbD i = false := by simp [BitVec.getLsbD_one, h]
    rw [this]
    by_cases hb : x.getLsbD j = true
    · simp [hb, BitVec.getLsbD_one, h]
    · simp [hb]
theorem bit_or (D : Int32) (a b : Nat) (ha : a < 8) (hb : b < 8) (h : ¬ ((D ||| (1 <<< (nI a &&& 31))) >>> (nI b &&& 31)) &&& 1 = 0) : (¬ (D >>> (nI b &&& 31)) &&& 1 = 0) ∨ a = b := by
  have g : ∀ x : Int32, (x >>> (nI b &&& 31)) &&& 1 = Int32.ofBitVec (x.toBitVec.sshiftRight b &&& 1#32) := by
    intro x
    rcases (show b = 0 ∨ b = 1 ∨ b = 2 ∨ b = 3 ∨ b = 4 ∨ b = 5 ∨ b = 6 ∨ b = 7 by omega) with e | e | e | e | e | e | e | e <;> subst e <;> rfl
  have g2 : ((1 : Int32) <<< (nI a &&& 31)).toBitVec = BitVec.twoPow 32 a := by
    rcases (show a = 0 ∨ a = 1 ∨ a = 2 ∨ a = 3 ∨ a = 4 ∨ a = 5 ∨ a = 6 ∨ a = 7 by omega) with e | e | e | e | e | e | e | e <;> subst e <;> rfl
  by_cases hab : a = b
  · exact .inr hab
  · left
    rw [g] at h ⊢
    rw [Int32.toBitVec_or, g2, bv_sh8 _ b hb, BitVec.getLsbD_or, BitVec.getLsbD_twoPow] at h
    rw [bv_sh8 _ b hb]
    intro q
    apply h
    rw [← q]
    congr 2
    simp [hab]
def rI (o : Option (Nat × Bool)) : Int32 := match o with
  | none => -10001
  | some (u, _) => nI u
theorem FD_lt {T : TT} {c j0 : Nat} {fit : Nat → Nat → Bool} (hj : j0 ≤ 16) : ∀ k v a fl u g, 16 - v ≤ k → v < 16 → FD T c j0 fit v a fl = some (u, g) → u < 16 ∧ v ≤ u := by
  intro k
  induction k with
  | zero => intro v a fl u g h1 h2; omega
  | succ k ih =>
    intro v a fl u g h1 h2 h
    rw [FD_eq hj h2] at h
    by_cases hk : a = c ∧ T (27 + 20 * v + 1) ≠ 0
    · rw [if_pos hk] at h
      simp only [Option.some.injEq, Prod.mk.injEq] at h
      omega
    · rw [if_neg hk] at h
      cases hX : fdL (fun x => if T (27 + 20 * x) = nI v ∧ a < c ∧ fit x a = true then FD T c j0 fit x (a + 1) true else none) (j0 - (v + 1)) (v + 1) with
      | some r =>
        rw [hX] at h
        simp at h
        subst h
        obtain ⟨y, h3, h4, h5⟩ := fdL_some _ _ _ hX
        by_cases hy : T (27 + 20 * y) = nI v ∧ a < c ∧ fit y a = true
        · rw [if_pos hy] at h5
          have := ih y (a + 1) true u g (by omega) (by omega) h5
          omega
        · rw [if_neg hy] at h5; simp at h5
      | none =>
        rw [hX] at h
        simp at h
        obtain ⟨y, h3, h4, h5⟩ := fdL_some _ _ _ h
        by_cases hy : T (27 + 20 * y) = nI v ∧ T (27 + 20 * y + 3) = 1
        · rw [if_pos hy] at h5
          have := ih y a false u g (by omega) (by omega) h5
          omega
        · rw [if_neg hy] at h5; simp at h5
def CFi (m : Mem) (n : Nat) (t T : TT) (c j0 : Nat) (W : Nat → TT) : Prop := TC m n t ∧ RNd m T ∧ m 39 3 = nI c ∧ (∀ s a, s < 3 → a < c → m (40 + s) a = W s a) ∧ m 3 2 = nI j0
def FF (m m' : Mem) : Prop := (∀ k, k ≠ 5 → k ≠ 3 → m' k = m k) ∧ ∀ j, j ≠ 3 → m' 3 j = m 3 j
theorem FF.rf {m : Mem} : FF m m := ⟨fun _ _ _ => rfl, fun _ _ => rfl⟩
theorem FF.tr {a b c : Mem} (h : FF a b) (g : FF b c) : FF a c := ⟨fun k h1 h2 => (g.1 k h1 h2).trans (h.1 k h1 h2), fun j h1 => (g.2 j h1).trans (h.2 j h1)⟩
theorem CFi.of {m m' : Mem} {n : Nat} {t T : TT} {c j0 : Nat} {W : Nat → TT} (h : CFi m n t T c j0 W) (f : FF m m') : CFi m' n t T c j0 W := by
  obtain ⟨h1, h2, h3, h4, h5⟩ := h
  refine ⟨?_, h2.fr (fun n hn => ⟨f.1 _ (by omega) (by omega), f.1 _ (by omega) (by omega)⟩), by rw [f.1 39 (by decide) (by decide), h3], fun s a hs ha => by rw [f.1 _ (by omega) (by omega)]; exact h4 s a hs ha, by rw [f.2 2 (by decide), h5]⟩
  unfold TC
  rw [f.1 1 (by decide) (by decide), f.1 2 (by decide) (by decide)]
  exact h1
def DI (m : Mem) (T : TT) (c j0 : Nat) (fit : Nat → Nat → Bool) : Prop := ∀ v a, v < 16 → a ≤ c → ¬ ((m 5 v >>> (nI a &&& 31)) &&& 1 = 0) → ∀ fl, FD T c j0 fit v a fl = none
def sfx (W : Nat → TT) (c : Nat) (g : Bool) : Int32 := if g = true then (if W 2 (c - 1) < 1 then 1 else W 2 (c - 1)) else 1
def fitB (n : Nat) (t T : TT) (W : Nat → TT) (x a : Nat) : Bool := decide (fitP n t T W x a)
theorem rI_none {o : Option (Nat × Bool)} (h : ∀ u g, o = some (u, g) → u < 16) : rI o = -10001 ↔ o = none := by
  cases o with
  | none => exact ⟨fun _ => rfl, fun _ => rfl⟩
  | some x =>
    obtain ⟨u, g⟩ := x
    have := h u g rfl
    constructor
    · intro q
      exfalso
      have h0 : 0 ≤ nI u := nI_le (a := 0) (by omega) (by omega)
      change nI u = -10001 at q
      rw [q] at h0
      exact absurd h0 (by decide)
    · intro q; simp at q
theorem c_from {n : Nat} {t T : TT} {c j0 N : Nat} {W : Nat → TT} (hN : 200 ≤ N) (hI : IT T) (hT0 : T 0 = nI j0) (hj : j0 ≤ 16) (hc : c ≤ 6) (hw : WI n W c) : ∀ k d m v a dep, 16 - v ≤ k → k ≤ d → v < j0 → a ≤ c → dep ≤ v → CFi m n t T c j0 W → DI m T c j0 (fitB n t T W) → ∃ m', f_findRec N d m (nI v) (nI a) (nI dep) = some (m', rI (FD T c j0 (fitB n t T W) v a false)) ∧ FF m m' ∧ DI m' T c j0 (fitB n t T W) ∧ (a = c → m' 3 3 = m 3 3) ∧ (a < c → ∀ u g, FD T c j0 (fitB n t T W) v a true = some (u, g) → m' 3 3 = sfx W c g) := by
  intro k
  induction k with
  | zero => intro d m v a dep h1 h2 h3; omega
  | succ k ih =>
    intro d m v a dep h1 h2 h3 h4 h5 ci di
    obtain ⟨d, rfl⟩ : ∃ q, d = q + 1 := ⟨d - 1, by omega⟩
    have eix : ix (T 0) = j0 := by rw [hT0, ix_nI (by omega)]
    show ∃ m', f_X5_findFrom (f_findRec N d) N m (nI v) (nI a) (nI dep) = _ ∧ _
    generalize hfit : fitB n t T W = fit at *
    have lt : ∀ v a fl u g, v < 16 → FD T c j0 fit v a fl = some (u, g) → u < 16 := fun v a fl u g hv h => (FD_lt hj 16 v a fl u g (by omega) hv h).1
    -- words first
    have byW : a < c → ∀ q x f m, x + q = j0 → v < x → q < f → CFi m n t T c j0 W → DI m T c j0 fit → ∃ m', f_X5_findByWord_14 (f_findRec N d) N f m (nI v) (nI a) (nI dep) (W 2 a) (nI x) = some (m', rI (fdL (fun x => if T (27 + 20 * x) = nI v ∧ a < c ∧ fit x a = true then FD T c j0 fit x (a + 1) true else none) q x)) ∧ FF m m' ∧ DI m' T c j0 fit ∧ (∀ u g, fdL (fun x => if T (27 + 20 * x) = nI v ∧ a < c ∧ fit x a = true then FD T c j0 fit x (a + 1) true else none) q x = some (u, g) → m' 3 3 = sfx W c g) := by
      intro hac q
      induction q with
      | zero =>
        intro x f m e1 e2 e3 ci di
        obtain ⟨f, rfl⟩ : ∃ k, f = k + 1 := ⟨f - 1, by omega⟩
        refine ⟨m, ?_, FF.rf, di, fun u g q => by simp [fdL] at q⟩
        show f_X5_findByWord_14b (f_findRec N d) N _ m (nI v) (nI a) (nI dep) (W 2 a) (nI x) = _
        unfold f_X5_findByWord_14b
        rw [ci.2.2.2.2, if_pos (nI_le (by omega) (by omega))]
        rfl
      | succ q ihq =>
        intro x f m e1 e2 e3 ci di
        obtain ⟨f, rfl⟩ : ∃ k, f = k + 1 := ⟨f - 1, by omega⟩
        have hx16 : x < 16 := by omega
        have nd := ci.2.1 x (by omega) hx16
        have hnx : nI x < T 0 := by rw [hT0]; exact nI_lt (by omega) (by omega)
        show ∃ m', f_X5_findByWord_14b (f_findRec N d) N (f_X5_findByWord_14 (f_findRec N d) N f) m (nI v) (nI a) (nI dep) (W 2 a) (nI x) = some (m', rI (Option.or (if T (27 + 20 * x) = nI v ∧ a < c ∧ fit x a = true then FD T c j0 fit x (a + 1) true else none) (fdL _ q (x + 1)))) ∧ FF m m' ∧ DI m' T c j0 fit ∧ (∀ u g, Option.or (if T (27 + 20 * x) = nI v ∧ a < c ∧ fit x a = true then FD T c j0 fit x (a + 1) true else none) (fdL _ q (x + 1)) = some (u, g) → m' 3 3 = sfx W c g)
        unfold f_X5_findByWord_14b f_X5_findByWord_127 f_X5_findByWord_121
        rw [ci.2.2.2.2, if_neg (nI_ge (by omega) (by omega)), gd_of (inR_nI hx16 (by decide)), ix_nI (by omega), nd.1]
        simp only [nI_1]
        by_cases hp : T (27 + 20 * x) = nI v
        · rw [if_pos (show T (27 + 20 * x + 0) = nI v from hp), gd_of (inR_nI (by omega) (by decide)), gd_of (inR_nI (by omega) (by decide)), ix_nI (by omega), show m 40 a = W 0 a from ci.2.2.2.1 0 a (by decide) hac, show m 41 a = W 1 a from ci.2.2.2.1 1 a (by decide) hac, c_fit hN ci.1 ci.2.1 hI hw hac hx16 (by omega) hnx (by omega), bm_some, if01]
          by_cases hf : fitP n t T W x a
          · have hfb : fit x a = true := by rw [← hfit]; exact decide_eq_true hf
            rw [if_pos hf, if_pos (show T (27 + 20 * x) = nI v ∧ a < c ∧ fit x a = true from ⟨hp, hac, hfb⟩)]
            obtain ⟨m2, r1, r2, r3, r4, r5⟩ := ih d m x (a + 1) (dep + 1) (by omega) (by omega) (by omega) (by omega) (by omega) ci di
            have ci2 := ci.of r2
            rw [r1, bm_some]
            have hfst := (FD_fl (T := T) (c := c) (fit := fit) hj (a := a + 1) hx16 true false).1
            cases hF : FD T c j0 fit x (a + 1) true with
            | none =>
              have hF2 : FD T c j0 fit x (a + 1) false = none := by
                rw [hF] at hfst
                cases hh : FD T c j0 fit x (a + 1) false with
                | none => rfl
                | some z => rw [hh] at hfst; simp at hfst
              rw [hF2, if_pos (show rI none = -10001 from rfl)]
              obtain ⟨m3, s1, s2, s3, s4⟩ := ihq (x + 1) f m2 (by omega) (by omega) (by omega) ci2 r3
              refine ⟨m3, ?_, r2.tr s2, s3, ?_⟩
              · rw [s1]; rfl
              · intro u g hu
                exact s4 u g (by simpa using hu)
            | some z =>
              obtain ⟨u, g⟩ := z
              have hu := lt x (a + 1) true u g hx16 hF
              obtain ⟨g', hF2⟩ : ∃ g', FD T c j0 fit x (a + 1) false = some (u, g') := by
                rw [hF] at hfst
                cases hh : FD T c j0 fit x (a + 1) false with
                | none => rw [hh] at hfst; simp at hfst
                | some z =>
                  obtain ⟨u', g'⟩ := z
                  rw [hh] at hfst
                  simp at hfst
                  exact ⟨g', by rw [hfst]⟩
              have hne : ¬ rI (some (u, g')) = -10001 := fun q => by
                have := (rI_none (o := some (u, g')) (fun u1 g1 q => by simp at q; omega)).mp q
                simp at this
              rw [hF2, if_neg hne, ci2.2.2.1]
              show ∃ m', (if nI (a + 1) = nI c then (if nI u = nI x then _ else _) else some (m2, nI u)) = some (m', nI u) ∧ _
              by_cases hac2 : a + 1 = c
              · rw [if_pos (by rw [hac2])]
                have hcc := hF
                rw [hac2] at hcc
                have wc : W 2 (c - 1) = W 2 a := by rw [show c - 1 = a by omega]
                have fw : ∀ w, FF m (up m2 3 3 w) := fun w => r2.tr ⟨fun k h1 h2 => up_ne h2, fun j hj => by simp [up, hj]⟩
                have dw : ∀ w, DI (up m2 3 3 w) T c j0 fit := fun w => by unfold DI; rw [up_ne (by decide)]; exact r3
                rcases FD_c hj 16 x true u g (by omega) hx16 hcc with ⟨q1, q2⟩ | ⟨q1, q2⟩
                · rw [if_pos (by rw [q1]), lm_def]
                  refine ⟨_, rfl, fw _, dw _, fun u1 g1 q => ?_⟩
                  simp at q
                  rw [← q.2, q2]
                  simp [up, sfx, wc]
                · rw [if_neg (show ¬ nI u = nI x from fun q => absurd ((nI_eq (by omega) (by omega)).mp q) (by omega)), lm_def]
                  refine ⟨_, rfl, fw _, dw _, fun u1 g1 q => ?_⟩
                  simp at q
                  rw [← q.2, q2]
                  simp [up, sfx]
              · rw [if_neg (show ¬ nI (a + 1) = nI c from fun q => hac2 ((nI_eq (by omega) (by omega)).mp q))]
                refine ⟨m2, rfl, r2, r3, fun u1 g1 q => ?_⟩
                simp at q
                rw [← q.2]
                exact r5 (by omega) u g hF
          · have hfb : ¬ fit x a = true := by rw [← hfit]; intro q; exact hf (of_decide_eq_true q)
            rw [if_neg hf, if_neg (fun q => hfb q.2.2), Option.none_or]
            exact ihq (x + 1) f m (by omega) (by omega) (by omega) ci di
        · rw [if_neg (show ¬ T (27 + 20 * x + 0) = nI v from hp), if_neg (fun q => hp q.1), Option.none_or]
          exact ihq (x + 1) f m (by omega) (by omega) (by omega) ci di
    -- then left out
    have byL : ∀ q x f m, x + q = j0 → v < x → q < f → CFi m n t T c j0 W → DI m T c j0 fit → (fdL (fun x => if T (27 + 20 * x) = nI v ∧ T (27 + 20 * x + 3) = 1 then FD T c j0 fit x a false else none) q x = none → ∀ fl, FD T c j0 fit v a fl = none) → ∃ m', f_X5_findFrom_93 (f_findRec N d) N f m (nI v) (nI a) (nI dep) (nI x) = some (m', rI (fdL (fun x => if T (27 + 20 * x) = nI v ∧ T (27 + 20 * x + 3) = 1 then FD T c j0 fit x a false else none) q x)) ∧ FF m m' ∧ DI m' T c j0 fit ∧ (a = c → m' 3 3 = m 3 3) ∧ (a < c → ∀ u g, fdL (fun x => if T (27 + 20 * x) = nI v ∧ T (27 + 20 * x + 3) = 1 then FD T c j0 fit x a false else none) q x = some (u, g) → m' 3 3 = sfx W c g) := by
      intro q
      induction q with
      | zero =>
        intro x f m e1 e2 e3 ci di hall
        obtain ⟨f, rfl⟩ : ∃ k, f = k + 1 := ⟨f - 1, by omega⟩
        show ∃ m', f_X5_findFrom_93b (f_findRec N d) N _ m (nI v) (nI a) (nI dep) (nI x) = _ ∧ _
        unfold f_X5_findFrom_93b
        rw [ci.2.2.2.2, if_pos (nI_le (by omega) (by omega)), gd_of (inR_nI (by omega) (by decide)), gd_of (inR_nI (by omega) (by decide)), ix_nI (by omega), lm_def]
        refine ⟨_, rfl, ⟨fun k h1 h2 => up_ne h1, fun j hj => by rw [up_ne (by decide)]⟩, fun v' b hv' hb hbit fl => ?_, fun _ => by rw [up_ne (by decide)], fun _ u g q => by simp [fdL] at q⟩
        by_cases hvv : v' = v
        · subst hvv
          rw [show up m 5 v' (m 5 v' ||| 1 <<< (nI a &&& 31)) 5 v' = m 5 v' ||| 1 <<< (nI a &&& 31) by simp [up]] at hbit
          rcases bit_or _ a b (by omega) (by omega) hbit with q | q
          · exact di v' b hv' hb q fl
          · rw [← q]; exact hall rfl fl
        · rw [show up m 5 v (m 5 v ||| 1 <<< (nI a &&& 31)) 5 v' = m 5 v' by simp [up, hvv]] at hbit
          exact di v' b hv' hb hbit fl
      | succ q ihq =>
        intro x f m e1 e2 e3 ci di hall
        obtain ⟨f, rfl⟩ : ∃ k, f = k + 1 := ⟨f - 1, by omega⟩
        have hx16 : x < 16 := by omega
        have nd := ci.2.1 x (by omega) hx16
        show ∃ m', f_X5_findFrom_93b (f_findRec N d) N (f_X5_findFrom_93 (f_findRec N d) N f) m (nI v) (nI a) (nI dep) (nI x) = some (m', rI (Option.or (if T (27 + 20 * x) = nI v ∧ T (27 + 20 * x + 3) = 1 then FD T c j0 fit x a false else none) (fdL _ q (x + 1)))) ∧ FF m m' ∧ DI m' T c j0 fit ∧ (a = c → m' 3 3 = m 3 3) ∧ (a < c → ∀ u g, Option.or (if T (27 + 20 * x) = nI v ∧ T (27 + 20 * x + 3) = 1 then FD T c j0 fit x a false else none) (fdL _ q (x + 1)) = some (u, g) → m' 3 3 = sfx W c g)
        change Option.or (if T (27 + 20 * x) = nI v ∧ T (27 + 20 * x + 3) = 1 then FD T c j0 fit x a false else none) (fdL _ q (x + 1)) = none → _ at hall
        unfold f_X5_findFrom_93b f_X5_findFrom_157
        rw [ci.2.2.2.2, if_neg (nI_ge (by omega) (by omega)), gd_of (inR_nI hx16 (by decide)), ix_nI (by omega), nd.1]
        simp only [nI_1]
        by_cases hp : T (27 + 20 * x) = nI v
        · rw [if_pos (show T (27 + 20 * x + 0) = nI v from hp), gd_of (inR_nI hx16 (by decide)), nd.2.2.2.1]
          by_cases hlo : T (27 + 20 * x + 3) = 1
          · rw [if_pos hlo, if_pos (show T (27 + 20 * x) = nI v ∧ T (27 + 20 * x + 3) = 1 from ⟨hp, hlo⟩)]
            rw [if_pos ⟨hp, hlo⟩] at hall
            obtain ⟨m2, r1, r2, r3, r4, r5⟩ := ih d m x a (dep + 1) (by omega) (by omega) (by omega) h4 (by omega) ci di
            rw [r1, bm_some]
            cases hF : FD T c j0 fit x a false with
            | none =>
              rw [hF] at hall
              rw [if_pos (show rI none = -10001 from rfl)]
              obtain ⟨m3, s1, s2, s3, s4, s5⟩ := ihq (x + 1) f m2 (by omega) (by omega) (by omega) (ci.of r2) r3 (fun q => hall (by rw [q]; rfl))
              refine ⟨m3, ?_, r2.tr s2, s3, fun e => ?_, ?_⟩
              · rw [s1]; rfl
              · rw [s4 e, r4 e]
              · intro e u g hu
                exact s5 e u g (by simpa using hu)
            | some z =>
              obtain ⟨u, g⟩ := z
              have hu := lt x a false u g hx16 hF
              have hne : ¬ rI (some (u, g)) = -10001 := fun q => by
                have := (rI_none (o := some (u, g)) (fun u1 g1 q => by simp at q; omega)).mp q
                simp at this
              rw [if_neg hne]
              refine ⟨m2, rfl, r2, r3, r4, fun e u1 g1 q => ?_⟩
              simp at q
              rw [← q.2]
              refine r5 e u g ?_
              rw [(FD_fl (T := T) (c := c) (fit := fit) hj (a := a) hx16 true false).2 (by omega)]
              exact hF
          · rw [if_neg hlo, if_neg (fun q => hlo q.2), Option.none_or]
            rw [if_neg (fun q => hlo q.2), Option.none_or] at hall
            exact ihq (x + 1) f m (by omega) (by omega) (by omega) ci di hall
        · rw [if_neg (show ¬ T (27 + 20 * x + 0) = nI v from hp), if_neg (fun q => hp q.1), Option.none_or]
          rw [if_neg (fun q => hp q.1), Option.none_or] at hall
          exact ihq (x + 1) f m (by omega) (by omega) (by omega) ci di hall
    unfold f_X5_findFrom
    have hv16 : v < 16 := by omega
    rw [if_neg (show ¬ (16 : Int32) < nI dep from fun q => absurd ((nI_ltI (a := 16) (by omega) (by omega)).mp q) (by omega)), gd_of (inR_nI hv16 (by decide)), ix_nI (by omega), gd_of (inR_nI hv16 (by decide)), ci.2.2.1, (ci.2.1 v (by omega) hv16).2.1]
    by_cases hbit : (m 5 v >>> (nI a &&& 31)) &&& 1 = 0
    · rw [if_pos hbit]
      unfold f_X5_findFrom_48 f_X5_findFrom_88 f_X5_findByWord
      rw [nI_1]
      rcases Nat.lt_or_ge a c with hac | hac
      · rw [if_pos (nI_lt hac (by omega)), ci.2.2.1, if_neg (nI_ge hac (by omega)), if_neg (show ¬ (6 : Int32) ≤ nI a from nI_ge (b := 6) (by omega) (by decide)), gd_of (inR_nI (by omega) (by decide)), ix_nI (by omega), show m 42 a = W 2 a from ci.2.2.2.1 2 a (by decide) hac]
        obtain ⟨m2, b1, b2, b3, b4⟩ := byW hac (j0 - (v + 1)) (v + 1) N m (by omega) (by omega) (by omega) ci di
        rw [b1, bm_some]
        have eqF : ∀ fl, FD T c j0 fit v a fl = (fdL (fun x => if T (27 + 20 * x) = nI v ∧ a < c ∧ fit x a = true then FD T c j0 fit x (a + 1) true else none) (j0 - (v + 1)) (v + 1)).or (fdL (fun x => if T (27 + 20 * x) = nI v ∧ T (27 + 20 * x + 3) = 1 then FD T c j0 fit x a false else none) (j0 - (v + 1)) (v + 1)) := fun fl => by rw [FD_eq hj hv16, if_neg (by omega)]
        rw [eqF true, eqF false]
        cases hX : fdL (fun x => if T (27 + 20 * x) = nI v ∧ a < c ∧ fit x a = true then FD T c j0 fit x (a + 1) true else none) (j0 - (v + 1)) (v + 1) with
        | none =>
          rw [if_pos (show rI none = -10001 from rfl)]
          obtain ⟨m3, s1, s2, s3, s4, s5⟩ := byL (j0 - (v + 1)) (v + 1) N m2 (by omega) (by omega) (by omega) (ci.of b2) b3 (fun q fl => by rw [eqF fl, hX, q]; rfl)
          refine ⟨m3, ?_, b2.tr s2, s3, fun e => by omega, fun e u g q => s5 e u g (by simpa using q)⟩
          rw [s1]; rfl
        | some z =>
          obtain ⟨u, g⟩ := z
          have hu : u < 16 := lt v a false u g hv16 (by rw [eqF false, hX]; rfl)
          have hne : ¬ rI (some (u, g)) = -10001 := fun q => by
            have := (rI_none (o := some (u, g)) (fun u1 g1 q => by simp at q; omega)).mp q
            simp at this
          rw [if_neg hne]
          refine ⟨m2, rfl, b2, b3, fun e => by omega, fun _ u1 g1 q => ?_⟩
          simp at q
          rw [← q.2]
          exact b4 u g hX
      · have hac2 : a = c := by omega
        rw [if_neg (show ¬ nI a < nI c from fun q => absurd ((nI_ltI (by omega) (by omega)).mp q) (by omega))]
        by_cases hk : T (27 + 20 * v + 1) = 0
        · rw [if_pos hk, ci.2.2.1, if_pos (nI_le hac (by omega))]
          have hnoW : fdL (fun x => if T (27 + 20 * x) = nI v ∧ a < c ∧ fit x a = true then FD T c j0 fit x (a + 1) true else none) (j0 - (v + 1)) (v + 1) = none := by
            cases hX : fdL (fun x => if T (27 + 20 * x) = nI v ∧ a < c ∧ fit x a = true then FD T c j0 fit x (a + 1) true else none) (j0 - (v + 1)) (v + 1) with
            | none => rfl
            | some z =>
              obtain ⟨y, h3, h4, h5⟩ := fdL_some _ _ _ hX
              rw [if_neg (by omega)] at h5
              simp at h5
          have eqF : ∀ fl, FD T c j0 fit v a fl = fdL (fun x => if T (27 + 20 * x) = nI v ∧ T (27 + 20 * x + 3) = 1 then FD T c j0 fit x a false else none) (j0 - (v + 1)) (v + 1) := fun fl => by rw [FD_eq hj hv16, if_neg (fun q => q.2 hk), hnoW, Option.none_or]
          obtain ⟨m3, s1, s2, s3, s4, s5⟩ := byL (j0 - (v + 1)) (v + 1) N m (by omega) (by omega) (by omega) ci di (fun q fl => by rw [eqF fl, q])
          exact ⟨m3, by rw [s1, eqF false], s2, s3, s4, fun e => by omega⟩
        · rw [if_neg hk]
          refine ⟨m, ?_, FF.rf, di, fun _ => rfl, fun e => by omega⟩
          rw [FD_eq hj hv16, if_pos ⟨hac2, hk⟩]
          rfl
    · rw [if_neg hbit]
      have hn := di v a hv16 h4 hbit
      exact ⟨m, by rw [hn false]; rfl, FF.rf, di, fun _ => rfl, fun _ u g q => by rw [hn true] at q; simp at q⟩
