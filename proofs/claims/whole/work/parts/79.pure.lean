/-! the law -/
theorem stepI {fc fm : Mem → Option (Mem × Int32)} {m : Mem} {K : Mem → Option (Mem × Int32)} (res : Res fc fm m) (hk : ∀ m2 T p P n t q, Sim m2 T p P n t q → ∃ σ, K m2 = some (σ, 1)) : ∃ σ, bm (fc m) (fun m1 r1 => bm (fm m1) (fun m2 r2 => if r1 = r2 then K m2 else some (m2, 0))) = some (σ, 1) := by
  obtain ⟨m1, m2, r, T, p, P, n, t, q, h1, h2, h3⟩ := res
  rw [h1, bm_some, h2, bm_some, if_pos rfl]
  exact hk m2 T p P n t q h3
theorem stepL {fc fm : Mem → Option (Mem × Int64)} {m : Mem} {K : Mem → Option (Mem × Int32)} (res : Res fc fm m) (hk : ∀ m2 T p P n t q, Sim m2 T p P n t q → ∃ σ, K m2 = some (σ, 1)) : ∃ σ, bm (fc m) (fun m1 r1 => bm (fm m1) (fun m2 r2 => if lg_cmp r1 r2 = 0 then K m2 else some (m2, 0))) = some (σ, 1) := by
  obtain ⟨m1, m2, r, T, p, P, n, t, q, h1, h2, h3⟩ := res
  rw [h1, bm_some, h2, bm_some, if_pos ((lg_cmp_eq r r).mpr rfl)]
  exact hk m2 T p P n t q h3
theorem law_end {L i : Nat} (hL : L ≤ 2560) (hi : i ≤ 10000) (h : ¬ i + 5 ≤ L) : Int32.ofNat L - 5 < nI i := by
  by_cases h5 : 5 ≤ L
  · rw [lit, show (5 : Int32) = nI 5 from rfl, pk_sub h5]
    exact nI_lt (by omega) (by omega)
  · have h0 : Int32.ofNat L - 5 < 0 := by
      rcases (show L = 0 ∨ L = 1 ∨ L = 2 ∨ L = 3 ∨ L = 4 by omega) with e | e | e | e | e <;> subst e <;> decide
    have h1 : (0 : Int32) ≤ nI i := nI_pos' (by omega)
    grind
theorem law_go {L i : Nat} (hL : L ≤ 2560) (h : i + 5 ≤ L) : ¬ Int32.ofNat L - 5 < nI i := by
  rw [lit, show (5 : Int32) = nI 5 from rfl, pk_sub (by omega)]
  intro q
  have := (nI_ltI (by omega) (by omega)).mp q
  omega
theorem law_step {N L i : Nat} {xs : Nat → Int32} {rec18 : Mem → Int32 → Option (Mem × Int32)} {m : Mem} {T : TT} {p : Nat} {P : Nat → TT} {n : Nat} {t q : TT} (hN : 1400 + MM 17 ≤ N) (hL : L ≤ 2560) (hi : i + 5 ≤ L) (h : Sim m T p P n t q) (hk : ∀ m2 T p P n t q, Sim m2 T p P n t q → ∃ σ, rec18 m2 (nI (i + 5)) = some (σ, 1)) : ∃ σ, f_L_law_18b N L xs rec18 m (nI i) = some (σ, 1) := by
  have hN2 : 1400 ≤ N := by omega
  have K : ∀ m2 T p P n t q, Sim m2 T p P n t q → ∃ σ, f_L_law_626 N L xs rec18 m2 (nI i) = some (σ, 1) := by
    intro m2 T p P n t q hs
    unfold f_L_law_626
    rw [show (5 : Int32) = nI 5 from rfl, nI_add]
    exact hk m2 T p P n t q hs
  unfold f_L_law_18b
  rw [if_neg (law_go hL hi)]
  have g0 : inR (nI i) L = true := inR_nI (by omega) (by omega)
  have g1 : inR (nI i + 1) L = true := by rw [nI_1]; exact inR_nI (by omega) (by omega)
  have g2 : inR (nI i + 2) L = true := by rw [show (2 : Int32) = nI 2 from rfl, nI_add]; exact inR_nI (by omega) (by omega)
  have g3 : inR (nI i + 3) L = true := by rw [show (3 : Int32) = nI 3 from rfl, nI_add]; exact inR_nI (by omega) (by omega)
  have g4 : inR (nI i + 4) L = true := by rw [show (4 : Int32) = nI 4 from rfl, nI_add]; exact inR_nI (by omega) (by omega)
  simp only [g0, g1, g2, g3, g4, gd_t]
  generalize xs (ix (nI i)) &&& 31 = c
  generalize xs (ix (nI i + 1)) = a1
  generalize xs (ix (nI i + 2)) = a2
  generalize xs (ix (nI i + 3)) = a3
  generalize xs (ix (nI i + 4)) = a4
  by_cases c0 : c = 0
  · rw [if_pos c0]; exact stepI (K := fun m2 => f_L_law_626 N L xs rec18 m2 (nI i)) (s_node N hN2 h a1 a2 a3 a4) K
  rw [if_neg c0]
  by_cases c1 : c = 1
  · rw [if_pos c1]; exact stepI (K := fun m2 => f_L_law_626 N L xs rec18 m2 (nI i)) (s_range N hN2 h a1 a2 a3) K
  rw [if_neg c1]
  by_cases c2 : c = 2
  · rw [if_pos c2]; exact stepI (K := fun m2 => f_L_law_626 N L xs rec18 m2 (nI i)) (s_of h a1 a2) K
  rw [if_neg c2]
  by_cases c3 : c = 3
  · rw [if_pos c3]; exact stepI (K := fun m2 => f_L_law_626 N L xs rec18 m2 (nI i)) (s_value h a1 a2) K
  rw [if_neg c3]
  by_cases c4 : c = 4
  · rw [if_pos c4]; exact stepI (K := fun m2 => f_L_law_626 N L xs rec18 m2 (nI i)) (s_type h a1) K
  rw [if_neg c4]
  by_cases c5 : c = 5
  · rw [if_pos c5]; exact stepI (K := fun m2 => f_L_law_626 N L xs rec18 m2 (nI i)) (s_clear h) K
  rw [if_neg c5]
  by_cases c6 : c = 6
  · rw [if_pos c6]; exact stepI (K := fun m2 => f_L_law_626 N L xs rec18 m2 (nI i)) (s_sends N hN h) K
  rw [if_neg c6]
  by_cases c7 : c = 7
  · rw [if_pos c7]; exact stepI (K := fun m2 => f_L_law_626 N L xs rec18 m2 (nI i)) (s_finds N hN h) K
  rw [if_neg c7]
  by_cases c8 : c = 8
  · rw [if_pos c8]; exact stepI (K := fun m2 => f_L_law_626 N L xs rec18 m2 (nI i)) (s_answer N hN2 h) K
  rw [if_neg c8]
  by_cases c9 : c = 9
  · rw [if_pos c9]; exact stepI (K := fun m2 => f_L_law_626 N L xs rec18 m2 (nI i)) (s_fault N hN2 h) K
  rw [if_neg c9]
  by_cases c10 : c = 10
  · rw [if_pos c10]; exact stepI (K := fun m2 => f_L_law_626 N L xs rec18 m2 (nI i)) (s_condition N hN2 h a1 a2) K
  rw [if_neg c10]
  by_cases c11 : c = 11
  · rw [if_pos c11]; exact stepI (K := fun m2 => f_L_law_626 N L xs rec18 m2 (nI i)) (s_masks N hN2 h a1 a2) K
  rw [if_neg c11]
  by_cases c12 : c = 12
  · rw [if_pos c12]; exact stepI (K := fun m2 => f_L_law_626 N L xs rec18 m2 (nI i)) (s_edges N hN2 h) K
  rw [if_neg c12]
  by_cases c13 : c = 13
  · rw [if_pos c13]; exact stepI (K := fun m2 => f_L_law_626 N L xs rec18 m2 (nI i)) (s_finishes N hN2 h a1) K
  rw [if_neg c13]
  by_cases c14 : c = 14
  · rw [if_pos c14]; exact stepI (K := fun m2 => f_L_law_626 N L xs rec18 m2 (nI i)) (s_state h a1) K
  rw [if_neg c14]
  by_cases c15 : c = 15
  · rw [if_pos c15]; exact stepI (K := fun m2 => f_L_law_626 N L xs rec18 m2 (nI i)) (s_answers h a1) K
  rw [if_neg c15]
  by_cases c16 : c = 16
  · rw [if_pos c16]; exact stepI (K := fun m2 => f_L_law_626 N L xs rec18 m2 (nI i)) (s_faults h a1) K
  rw [if_neg c16]
  by_cases c17 : c = 17
  · rw [if_pos c17]; exact stepI (K := fun m2 => f_L_law_626 N L xs rec18 m2 (nI i)) (s_pending h a1) K
  rw [if_neg c17]
  by_cases c18 : c = 18
  · rw [if_pos c18]; exact stepI (K := fun m2 => f_L_law_626 N L xs rec18 m2 (nI i)) (s_back N hN2 h) K
  rw [if_neg c18]
  by_cases c19 : c = 19
  · rw [if_pos c19]; exact stepI (K := fun m2 => f_L_law_626 N L xs rec18 m2 (nI i)) (s_told h a1) K
  rw [if_neg c19]
  by_cases c20 : c = 20
  · rw [if_pos c20]; exact stepL (K := fun m2 => f_L_law_626 N L xs rec18 m2 (nI i)) (s_digest N hN2 h) K
  rw [if_neg c20]
  exact K m T p P n t q h
theorem law_loop {N L : Nat} {xs : Nat → Int32} (hN : 1400 + MM 17 ≤ N) (hL : L ≤ 2560) : ∀ r fu i m T p P n t q, L ≤ i + r → r < fu → i ≤ L + 5 → Sim m T p P n t q → ∃ σ, f_L_law_18 N L xs fu m (nI i) = some (σ, 1) := by
  intro r
  induction r with
  | zero =>
    intro fu i m T p P n t q h1 h2 h3 h
    obtain ⟨fu, rfl⟩ : ∃ x, fu = x + 1 := ⟨fu - 1, by omega⟩
    show ∃ σ, f_L_law_18b N L xs (f_L_law_18 N L xs fu) m (nI i) = some (σ, 1)
    unfold f_L_law_18b
    rw [if_pos (law_end hL (by omega) (by omega))]
    exact ⟨m, rfl⟩
  | succ r ih =>
    intro fu i m T p P n t q h1 h2 h3 h
    obtain ⟨fu, rfl⟩ : ∃ x, fu = x + 1 := ⟨fu - 1, by omega⟩
    show ∃ σ, f_L_law_18b N L xs (f_L_law_18 N L xs fu) m (nI i) = some (σ, 1)
    by_cases hi : i + 5 ≤ L
    · exact law_step hN hL hi h (fun m2 T p P n t q hs => ih fu (i + 5) m2 T p P n t q (by omega) (by omega) (by omega) hs)
    · unfold f_L_law_18b
      rw [if_pos (law_end hL (by omega) hi)]
      exact ⟨m, rfl⟩
theorem law_pure (L : Nat) (hL : L ≤ 2560) (xs : Nat → Int32) : ∃ (N : Nat) (σ : Mem), f_L_law N L xs m_init = some (σ, 1) := by
  refine ⟨4000 + MM 17, ?_⟩
  unfold f_L_law
  exact law_loop (N := 4000 + MM 17) (by omega) hL L (4000 + MM 17) 0 m_init T_init 0 (fun _ => T_init) 0 (fun _ => 0) (fun _ => 0) (by omega) (by omega) (by omega) Sim_init
