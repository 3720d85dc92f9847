/-! the start -/
def T_init : TT := upd (upd (upd (fun _ => 0) 0 1) 27 (-10001)) 6 15
theorem T_init_0 {j : Nat} (h0 : j ≠ 0) (h6 : j ≠ 6) (h27 : j ≠ 27) : T_init j = 0 := by
  unfold T_init upd
  rw [if_neg h6, if_neg h27, if_neg h0]
theorem mi_112 : m_init 112 = T_init := by
  funext j
  show (if 112 = 112 then _ else _) = _
  rw [if_pos rfl]
  rfl
theorem mi_0 {k : Nat} (j : Nat) (h1 : k ≠ 112) (h2 : k ≠ 55) (h3 : ¬ kd k = 3) (h4 : ¬ kd k = 1) (h5 : ¬ kd k = 5) : m_init k j = 0 := by
  unfold m_init
  rw [if_neg h1, if_neg h2, if_neg h3, if_neg h4, if_neg h5]
theorem IT_init : IT T_init := by
  refine ⟨by decide, by decide, by decide, by decide, Or.inl (by decide), by decide, fun n hn _ => ?_, fun n h1 h16 h => ?_⟩
  · exact ⟨T_init_0 (by omega) (by omega) (by omega), T_init_0 (by omega) (by omega) (by omega), T_init_0 (by omega) (by omega) (by omega), T_init_0 (by omega) (by omega) (by omega)⟩
  · exfalso
    have := (nI_ltI (a := n) (b := 1) (by omega) (by decide)).mp h
    omega
theorem RSt_init : RSt m_init 43 T_init := by
  refine ⟨⟨by decide, by decide, by decide, by decide, by decide, by decide, by decide, by decide, by decide, by decide, by decide, by decide, by decide⟩, fun i hi => ?_, fun i hi => ?_, fun i hi => ?_, fun i hi => ?_, fun i hi => ?_, fun i hi => ?_, fun i s hi hs => ?_⟩ <;> rw [mi_0 _ (by decide) (by decide) (by decide) (by decide) (by decide), T_init_0 (by omega) (by omega) (by omega)]
theorem RNd_init : RNd m_init T_init := by
  intro n hn h16
  have h1 : ix (T_init 0) = 1 := by decide
  have : n = 0 := by omega
  subst this
  refine ⟨by decide, by decide, by decide, by decide, by decide, by decide, fun i hi h => ?_⟩
  exfalso
  have e : T_init (27 + 20 * 0 + 11) = 0 := by decide
  rw [e] at h
  exact nI_pos (by omega) h
theorem Sim_init : Sim m_init T_init 0 (fun _ => T_init) 0 (fun _ => 0) (fun _ => 0) := by
  refine ⟨⟨⟨by decide, by decide⟩, ⟨fun i hi => ?_, fun i j hi hj hij => ?_⟩, RSt_init, RNd_init, fun i hi => by omega, ⟨by decide, fun j hj => by omega⟩, by decide, by decide, by decide⟩, ⟨by decide, mi_112, fun i j hi => by omega, by decide, fun j hj => by omega, fun i hi => ?_⟩, IT_init, by decide, fun i hi => by omega, fun i j _ hj => by omega, fun i hi => by omega, by decide, fun j hj => by omega⟩
  · rcases (show i = 0 ∨ i = 1 ∨ i = 2 ∨ i = 3 ∨ i = 4 by omega) with e | e | e | e | e <;> subst e <;> decide
  · have k : ∀ i, i < 5 → kK m_init i = 56 + 11 * i := by
      intro i hi
      rcases (show i = 0 ∨ i = 1 ∨ i = 2 ∨ i = 3 ∨ i = 4 by omega) with e | e | e | e | e <;> subst e <;> decide
    rw [k i hi, k j hj]
    omega
  · rw [mi_0 _ (by decide) (by decide) (by decide) (by decide) (by decide)]
