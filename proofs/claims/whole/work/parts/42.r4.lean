theorem IT_node {T : TT} (h : IT T) {j : Nat} (hj : j < 16) (h0 : T 0 = nI j) {x1 x2 x3 x4 : Int32} {n : Nat} {t : TT} (ho : nmOk n t) (k1 : 0 ≤ x1 ∧ x1 < T 0) (k2 : 0 ≤ x2 ∧ x2 ≤ 3) (k3 : 0 ≤ x3 ∧ x3 ≤ 3) (k4 : 0 ≤ x4 ∧ x4 ≤ 1) : IT (tNode T j x1 x2 x3 x4 n t) := by
  obtain ⟨o1, o2, o3, o4⟩ := nm_facts ho
  obtain ⟨⟨p1, p2⟩, p3, p4, p5, p6, p7, p8, p9⟩ := h
  have hj1 : 1 ≤ j := by
    rcases Nat.eq_zero_or_pos j with q | q
    · subst q; rw [h0] at p1; exact absurd p1 (by decide)
    · exact q
  have f : ∀ i, i ≠ 0 → i < 27 + 20 * j → tNode T j x1 x2 x3 x4 n t i = T i := fun i a b => tNode_o (by omega) a
  refine ⟨⟨?_, ?_⟩, ?_, ?_, ?_, ?_, ?_, fun n' hn' hh => ?_, fun n' h1 h2 h3 => ?_⟩
  · rw [tNode_0, h0, nI_1]; exact nI_le (a := 1) (by omega) (by omega)
  · rw [tNode_0, h0, nI_1]; exact nI_le (b := 16) (by omega) (by omega)
  · rw [f 9 (by decide) (by omega)]; exact p3
  · rw [f 11 (by decide) (by omega)]; exact p4
  · rw [f 12 (by decide) (by omega)]; exact p5
  · rw [f 10 (by decide) (by omega)]; exact p6
  · rw [f 27 (by decide) (by omega), f 28 (by decide) (by omega), f 29 (by decide) (by omega), f 30 (by decide) (by omega), f 37 (by decide) (by omega), f 38 (by decide) (by omega)]; exact p7
  · by_cases hnj : n' = j
    · subst hnj
      rw [tNode_w (by omega), tNode_w (by omega), tNode_w (by omega), tNode_w (by omega)]
      simp [tNw]
    · rw [tNode_o (by omega) (by omega)] at hh
      rw [tNode_o (by omega) (by omega), tNode_o (by omega) (by omega), tNode_o (by omega) (by omega), tNode_o (by omega) (by omega)]
      exact p8 n' hn' hh
  · by_cases hnj : n' = j
    · subst hnj
      have w0 : tNode T n' x1 x2 x3 x4 n t (27 + 20 * n') = x1 := tNode_w (w := 0) (by omega)
      rw [w0, tNode_w (by omega), tNode_w (by omega), tNode_w (by omega), tNode_w (by omega), tNode_w (by omega)]
      refine ⟨by rw [← h0]; exact k1, k2, k3, ?_, ⟨?_, ?_, ?_⟩, fun i hi hh => ?_⟩
      · show x4 = 0 ∨ x4 = 1
        grind
      · exact nI_le (a := 1) o1 (by omega)
      · exact nI_le o2 (by omega)
      · exact nI_le (b := 8) o3 (by omega)
      · have hi2 : i < n := (nI_ltI (by omega) (by omega)).mp (show nI i < nI n from hh)
        rw [show 27 + 20 * n' + 12 + i = 27 + 20 * n' + (12 + i) by omega, tNode_w (by omega)]
        have e : tNw x1 x2 x3 x4 n t (12 + i) = sml (t i) := by
          unfold tNw
          simp only [show ¬ 12 + i = 0 by omega, show ¬ 12 + i = 1 by omega, show ¬ 12 + i = 2 by omega, show ¬ 12 + i = 3 by omega, show ¬ 12 + i = 5 by omega, show ¬ 12 + i = 10 by omega, show ¬ 12 + i = 11 by omega, if_false, if_pos (show 12 ≤ 12 + i ∧ 12 + i < 12 + n by omega), show 12 + i - 12 = i by omega]
        rw [e]
        have := let_sml (o4 i hi2)
        exact ⟨this.2.1, this.2.2.1⟩
    · have h3' : nI n' < T 0 := by
        rw [tNode_0, h0, nI_1] at h3
        rw [h0]
        have := (nI_ltI (by omega) (by omega)).mp h3
        exact nI_lt (by omega) (by omega)
      have e0 : ∀ w, w < 20 → tNode T j x1 x2 x3 x4 n t (27 + 20 * n' + w) = T (27 + 20 * n' + w) := fun w hw => tNode_o (by omega) (by omega)
      have e00 : tNode T j x1 x2 x3 x4 n t (27 + 20 * n') = T (27 + 20 * n') := e0 0 (by decide)
      rw [e00, e0 1 (by decide), e0 2 (by decide), e0 3 (by decide), e0 10 (by decide), e0 11 (by decide)]
      obtain ⟨z1, z2, z3, z4, z5, z6⟩ := p9 n' h1 h2 h3'
      refine ⟨z1, z2, z3, z4, z5, fun i hi hh => ?_⟩
      rw [show 27 + 20 * n' + 12 + i = 27 + 20 * n' + (12 + i) by omega, e0 (12 + i) (by omega), ← Nat.add_assoc]
      exact z6 i hi hh
theorem s_node {m : Mem} {T : TT} {p : Nat} {P : Nat → TT} {n : Nat} {t q : TT} (N : Nat) (hN : 1400 ≤ N) (h : Sim m T p P n t q) (x1 x2 x3 x4 : Int32) : Res (fun m => f_X8_node N m x1 x2 x3 x4) (fun m => f_X9_node N m x1 x2 x3 x4) m := by
  have hI := h.2.2.1
  have htc := h.1.tc h.2.2
  have ce : f_X8_node N m x1 x2 x3 x4 = if (0 ≤ x1 ∧ x1 < T 0) ∧ T (27 + 20 * ix x1 + 1) = 0 then (if 0 ≤ x2 ∧ x2 ≤ 3 then (if 0 ≤ x3 ∧ x3 ≤ 3 then (if 0 ≤ x4 ∧ x4 ≤ 1 then (bm (f_X4_isName N m) (fun m5 r5 => if r5 = 0 then (f_X8_refuse m5 (-10003)) else (if (m5 43 0) < 16 then (bm (f_X0_keep N 43 m5) (fun m6 _ => gd (inR (m6 43 0) 16) (lm (up m6 (6 + 2 * ix (m6 43 0)) 0 x1) (fun m7 => lm (up m7 (6 + 2 * ix (m6 43 0)) 1 x2) (fun m8 => lm (up m8 (6 + 2 * ix (m6 43 0)) 2 x3) (fun m9 => lm (up m9 (6 + 2 * ix (m6 43 0)) 3 x4) (fun m10 => bm (f_X1_takeName N (6 + 2 * ix (m6 43 0)) m10) (fun m11 _ => if x2 = 1 then (f_X8_node_164 N m11 (m6 43 0) 9999) else (f_X8_node_164 N m11 (m6 43 0) 0))))))))) else (f_X8_refuse m5 (-10004))))) else f_X8_refuse m (-10002)) else f_X8_refuse m (-10002)) else f_X8_refuse m (-10002)) else f_X8_refuse m (-10002) := by
    unfold f_X8_node f_X8_node_36
    rw [c_isParent h.1.2.2.1 h.1.2.2.2.1 hI, bm_some, if01, c_within, bm_some, if01, c_within, bm_some, if01, c_within, bm_some, if01]
    simp only [bm_id]
  have me : ∀ m1, RM m1 T p P n t q → f_X9_node N m1 x1 x2 x3 x4 = if (0 ≤ x1 ∧ x1 < T 0) ∧ T (27 + 20 * ix x1 + 1) = 0 then (if 0 ≤ x2 ∧ x2 ≤ 3 then (if 0 ≤ x3 ∧ x3 ≤ 3 then (if 0 ≤ x4 ∧ x4 ≤ 1 then (bm (f_X9_capitals N m1) (fun m6 r6 => if r6 = 0 then (f_X9_refuses m6 (-10003)) else (gd (inR 0 347) (if (m6 112 (ix 0)) = 16 then (f_X9_refuses m6 (-10004)) else (bm (f_X9_hold N m6) (fun m7 _ => gd (inR 0 347) (gd (inR 0 347) (gd (inR 0 347) (lm (up m7 112 (ix 0) ((m7 112 (ix 0)) + 1)) (fun m8 => (f_X9_node_116 N N m8 x1 x2 x3 x4 r6 (m7 112 (ix 0)) 0)))))))))) ) else f_X9_refuses m1 (-10002)) else f_X9_refuses m1 (-10002)) else f_X9_refuses m1 (-10002)) else f_X9_refuses m1 (-10002) := by
    intro m1 r
    unfold f_X9_node f_X9_node_45
    rw [m_isNode r.2.1 hI, bm_some, if01]
    simp only [bm_id]
    by_cases hx : 0 ≤ x1 ∧ x1 < T 0
    · obtain ⟨j, h1, h2, h3, h4, h5⟩ := node_of hI hx
      rw [if_pos hx, h3]
      rw [h2, show f_X9_ofNode m1 (nI j) 1 = some (m1, m1 112 (27 + 20 * j + 1)) from m_ofNode m1 h1 (w := 1) (by decide), bm_some, r.2.1]
      rw [h2] at hx
      by_cases hk : T (27 + 20 * j + 1) = 0
      · rw [if_pos hk, if_pos ⟨hx, hk⟩, m_in, bm_some, if01, m_in, bm_some, if01, m_in, bm_some, if01]
      · rw [if_neg hk, if_neg (fun q => hk q.2)]
    · rw [if_neg hx, if_neg (fun q => hx q.1)]
  by_cases k1 : (0 ≤ x1 ∧ x1 < T 0) ∧ T (27 + 20 * ix x1 + 1) = 0
  case neg => exact h.ref 0 (by decide) (by show f_X8_node N m x1 x2 x3 x4 = _; rw [ce, if_neg k1]; rfl) (fun m1 r => by show f_X9_node N m1 x1 x2 x3 x4 = _; rw [me m1 r, if_neg k1]; rfl)
  by_cases k2 : 0 ≤ x2 ∧ x2 ≤ 3
  case neg => exact h.ref 0 (by decide) (by show f_X8_node N m x1 x2 x3 x4 = _; rw [ce, if_pos k1, if_neg k2]; rfl) (fun m1 r => by show f_X9_node N m1 x1 x2 x3 x4 = _; rw [me m1 r, if_pos k1, if_neg k2]; rfl)
  by_cases k3 : 0 ≤ x3 ∧ x3 ≤ 3
  case neg => exact h.ref 0 (by decide) (by show f_X8_node N m x1 x2 x3 x4 = _; rw [ce, if_pos k1, if_pos k2, if_neg k3]; rfl) (fun m1 r => by show f_X9_node N m1 x1 x2 x3 x4 = _; rw [me m1 r, if_pos k1, if_pos k2, if_neg k3]; rfl)
  by_cases k4 : 0 ≤ x4 ∧ x4 ≤ 1
  case neg => exact h.ref 0 (by decide) (by show f_X8_node N m x1 x2 x3 x4 = _; rw [ce, if_pos k1, if_pos k2, if_pos k3, if_neg k4]; rfl) (fun m1 r => by show f_X9_node N m1 x1 x2 x3 x4 = _; rw [me m1 r, if_pos k1, if_pos k2, if_pos k3, if_neg k4]; rfl)
  by_cases ho : nmOk n t
  case neg =>
    refine h.ref 1 (by decide) ?_ (fun m1 r => ?_)
    · show f_X8_node N m x1 x2 x3 x4 = _
      rw [ce, if_pos k1, if_pos k2, if_pos k3, if_pos k4]
      rcases c_isName (N := N) htc (by omega) with q | q
      · exact absurd q.1 ho
      · rw [q.2, bm_some, if_pos rfl]; rfl
    · show f_X9_node N m1 x1 x2 x3 x4 = _
      rw [me m1 r, if_pos k1, if_pos k2, if_pos k3, if_pos k4]
      rcases m_capitals (N := N) (r.tm h.2.2) (by omega) with q | q
      · exact absurd q.1 ho
      · rw [q.2, bm_some, if_pos rfl]; rfl
  have c1 : f_X4_isName N m = some (m, 1) := by
    rcases c_isName (N := N) htc (by omega) with q | q
    · exact q.2
    · exact absurd ho q.1
  have c2 : ∀ m1, RM m1 T p P n t q → f_X9_capitals N m1 = some (m1, nI (nmK n t)) := by
    intro m1 r
    rcases m_capitals (N := N) (r.tm h.2.2) (by omega) with q | q
    · exact q.2
    · exact absurd ho q.1
  obtain ⟨o1, o2, o3, o4⟩ := nm_facts ho
  have hnz : ¬ nI (nmK n t) = 0 := fun q => absurd ((nI_eq (b := 0) (by omega) (by decide)).mp q) (by omega)
  obtain ⟨j, hj, ej⟩ := rng (b := 16) (x := T 0) (by decide) (by have := hI.1; grind) hI.1.2
  have e43 : m 43 0 = nI j := by rw [← ej]; exact h.1.2.2.1.1.1
  by_cases hj16 : j = 16
  · subst hj16
    refine h.ref 2 (by decide) ?_ (fun m1 r => ?_)
    · show f_X8_node N m x1 x2 x3 x4 = _
      rw [ce, if_pos k1, if_pos k2, if_pos k3, if_pos k4, c1, bm_some, if_neg (by decide), e43, if_neg (by decide)]
      rfl
    · show f_X9_node N m1 x1 x2 x3 x4 = _
      rw [me m1 r, if_pos k1, if_pos k2, if_pos k3, if_pos k4, c2 m1 r, bm_some, if_neg hnz, gd_of (show inR 0 347 = true from rfl), r.2.1, show ix 0 = 0 from rfl, ej, if_pos (by decide)]
      rfl
  · have hj2 : j < 16 := by omega
    have hIT := IT_node hI hj2 ej ho k1.1 k2 k3 k4
    refine h.glue (nI j) (tNode T j x1 x2 x3 x4 n t) (pN p) (pP p P T) n t q ?_ (fun m1 r => ?_) (IA_push h.2.2 hIT ?_)
    · show ∃ m1, f_X8_node N m x1 x2 x3 x4 = _ ∧ _
      rw [ce, if_pos k1, if_pos k2, if_pos k3, if_pos k4, c1, bm_some, if_neg (by decide), e43, if_pos (show nI j < (16 : Int32) from nI_lt (b := 16) hj2 (by decide))]
      obtain ⟨m1, e1, e2, e3, e4⟩ := c_keep N (by omega) m T p P n t q h.1 hI
      rw [e1, bm_some]
      obtain ⟨m2, d1, d2, d3⟩ := c_nodeMake N hN e2 (IA_push h.2.2 hI (Int32.le_refl _)) hj2 ej ho x1 x2 x3 x4
      exact ⟨m2, d1, d2, e3.tr d3⟩
    · refine m_chg2 (fm := fun m => f_X9_node N m x1 x2 x3 x4) N hN r h.2.2.2.1 (tNode T j x1 x2 x3 x4 n t) (nI j) (fun m7 => gd (inR 0 347) (gd (inR 0 347) (gd (inR 0 347) (lm (up m7 112 (ix 0) ((m7 112 (ix 0)) + 1)) (fun m8 => (f_X9_node_116 N N m8 x1 x2 x3 x4 (nI (nmK n t)) (m7 112 (ix 0)) 0)))))) (fun m1 => some (m1, nI j)) ?_ (fun m2 r2 => ?_) (fun _ _ => rfl)
      · show f_X9_node N m1 x1 x2 x3 x4 = _
        rw [me m1 r, if_pos k1, if_pos k2, if_pos k3, if_pos k4, c2 m1 r, bm_some, if_neg hnz, gd_of (show inR 0 347 = true from rfl), r.2.1, show ix 0 = 0 from rfl, ej, if_neg (show ¬ nI j = (16 : Int32) from fun q => hj16 ((nI_eq (b := 16) (by omega) (by decide)).mp q))]
      · show f_X9_node_116 N N (up m2 112 0 (m2 112 0 + 1)) x1 x2 x3 x4 (nI (nmK n t)) (m2 112 0) 0 = _
        have := m_nodeMake N hN (r2.tm h.2.2) r2.2.1 hj2 ej ho x1 x2 x3 x4
        rw [show f_X9_node_116 N N (up m2 112 0 (m2 112 0 + 1)) x1 x2 x3 x4 (nI (nmK n t)) (m2 112 0) 0 = f_X9_node_116 N N (up m2 112 0 (m2 112 0 + 1)) x1 x2 x3 x4 (nI (nmK n t)) (nI j) 0 by rw [show m2 112 0 = nI j by rw [r2.2.1, ej]]]
        exact this
    · rw [tNode_0, ej, nI_1]
      exact nI_le (by omega) (by omega)
