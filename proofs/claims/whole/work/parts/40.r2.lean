/-! a new node -/
def tNw (x1 x2 x3 x4 : Int32) (n : Nat) (t : TT) (w : Nat) : Int32 := if w = 0 then x1 else if w = 1 then x2 else if w = 2 then x3 else if w = 3 then x4 else if w = 5 then (if x2 = 1 then 9999 else 0) else if w = 10 then nI (nmK n t) else if w = 11 then nI n else if 12 ≤ w ∧ w < 12 + n then sml (t (w - 12)) else 0
def tNode (T : TT) (j : Nat) (x1 x2 x3 x4 : Int32) (n : Nat) (t : TT) : TT := fun i => if i = 0 then T 0 + 1 else if 27 + 20 * j ≤ i ∧ i < 27 + 20 * j + 20 then tNw x1 x2 x3 x4 n t (i - (27 + 20 * j)) else T i
theorem m_chg2 {fm : Mem → Option (Mem × Int32)} {m1 : Mem} {T : TT} {p : Nat} {P : Nat → TT} {n : Nat} {t q : TT} (N : Nat) (hN : 1400 ≤ N) (h1 : RM m1 T p P n t q) (hp : p ≤ 5) (T' : TT) (r : Int32) (gm k3 : Mem → Option (Mem × Int32)) (hm : fm m1 = bm (f_X9_hold N m1) (fun m2 _ => gm m2)) (hm2 : ∀ m2, RM m2 T p P n t q → gm m2 = bm (f_X9_push N (setC m2 112 T')) (fun m3 _ => k3 m3)) (hk : ∀ m3, m3 112 = T' → k3 m3 = some (m3, r)) : ∃ m2, fm m1 = some (m2, r) ∧ RM m2 T' (pN p) (pP p P T) n t q ∧ MF m1 m2 := by
  rw [hm, m_hold N (by omega) m1, bm_some]
  generalize hg : setC m1 113 (fun j => if j < 347 then m1 112 j else m1 113 j) = m2
  have f : ∀ k, k ≠ 113 → m2 k = m1 k := fun k hk => by rw [← hg, setC_ne hk]
  obtain ⟨h1, h2, h3, h4, h5, h6⟩ := h1
  rw [hm2 m2 (by
    unfold RM
    rw [f 111 (by decide), f 112 (by decide), f 114 (by decide), f 115 (by decide), f 116 (by decide)]
    exact ⟨h1, h2, h3, h4, h5, h6⟩)]
  have f2 : ∀ k, k ≠ 112 → setC m2 112 T' k = m2 k := fun k hk => setC_ne hk
  have hr : RM (setC m2 112 T') T' p P n t q := by
    unfold RM
    rw [f2 111 (by decide), f2 114 (by decide), f2 115 (by decide), f2 116 (by decide), f 111 (by decide), f 114 (by decide), f 115 (by decide), f 116 (by decide)]
    exact ⟨h1, setC_at, h3, h4, h5, h6⟩
  obtain ⟨m3, e1, e2, e3⟩ := m_push N hN (setC m2 112 T') T T' p P n t q hr hp (fun j hj => by rw [f2 113 (by decide), ← hg, setC_at, if_pos hj, h2])
  rw [e1, bm_some, hk m3 e2.2.1]
  refine ⟨m3, rfl, e2, fun k hk => ?_⟩
  rw [e3 k hk, f2 k (by omega), f k (by omega)]
theorem m_nodeMake {m : Mem} {T : TT} {n : Nat} {t : TT} (N : Nat) (hN : 1400 ≤ N) (h : TM m n t) (hT : m 112 = T) {j : Nat} (hj : j < 16) (h0 : T 0 = nI j) (ho : nmOk n t) (x1 x2 x3 x4 : Int32) : f_X9_node_116 N N (up m 112 0 (m 112 0 + 1)) x1 x2 x3 x4 (nI (nmK n t)) (nI j) 0 = bm (f_X9_push N (setC m 112 (tNode T j x1 x2 x3 x4 n t))) (fun m1 _ => some (m1, nI j)) := by
  obtain ⟨o1, o2, o3, o4⟩ := nm_facts ho
  have l2 : ∀ m1 : Mem, TM m1 n t → f_X9_node_215 N N m1 (nI j) 0 = bm (f_X9_push N (setC m1 112 (fun i => if 27 + 20 * j + 12 ≤ i ∧ i < 27 + 20 * j + 12 + n then sml (t (i - (27 + 20 * j + 12))) else m1 112 i))) (fun m1 _ => some (m1, nI j)) := by
    intro m1 h1
    have hl := loopUp (fun f m x => f_X9_node_215 N f m (nI j) x) n (fun m _ => m) (fun m => bm (f_X9_push N m) (fun m1 _ => some (m1, nI j))) (fun x => setC m1 112 (fun i => if 27 + 20 * j + 12 ≤ i ∧ i < 27 + 20 * j + 12 + x then sml (t (i - (27 + 20 * j + 12))) else m1 112 i)) ?_ ?_ n 0 N (by omega) (by omega)
    · have e : setC m1 112 (fun i => if 27 + 20 * j + 12 ≤ i ∧ i < 27 + 20 * j + 12 + 0 then sml (t (i - (27 + 20 * j + 12))) else m1 112 i) = m1 := by
        have : (fun i => if 27 + 20 * j + 12 ≤ i ∧ i < 27 + 20 * j + 12 + 0 then sml (t (i - (27 + 20 * j + 12))) else m1 112 i) = m1 112 := by
          funext i
          rw [if_neg (by omega)]
        rw [this, setC_self]
      simp only [e] at hl
      exact hl
    · intro f i hi
      show f_X9_node_215b N (f_X9_node_215 N f) _ _ _ = _
      unfold f_X9_node_215b
      rw [setC_ne (by decide), setC_ne (by decide), h1.1, if_neg (nI_ge hi (by omega)), gd_of (inR_nI (by omega) (by decide)), ix_nI (by omega), h1.2.1 i hi, m_small, bm_some, show (12 : Int32) = nI 12 from rfl, nI_add, m_put _ _ hj (by omega), bm_some, nI_1, setC_at, setC_setC]
      congr 2
      funext a
      simp only [upd]
      by_cases ha : a = 27 + 20 * j + (12 + i)
      · subst ha
        rw [if_pos rfl, if_pos (by omega), show 27 + 20 * j + (12 + i) - (27 + 20 * j + 12) = i by omega]
      · rw [if_neg ha]
        by_cases hb : 27 + 20 * j + 12 ≤ a ∧ a < 27 + 20 * j + 12 + i
        · rw [if_pos hb, if_pos (by omega)]
        · rw [if_neg hb, if_neg (by omega)]
    · intro f
      show f_X9_node_215b N (f_X9_node_215 N f) _ _ _ = _
      unfold f_X9_node_215b
      rw [setC_ne (by decide), h1.1, if_pos (nI_le (Nat.le_refl n) (by omega))]
  have hl := loopUp (fun f m x => f_X9_node_116 N f m x1 x2 x3 x4 (nI (nmK n t)) (nI j) x) 20 (fun m _ => m) (fun m => bm (f_X9_put m (nI j) 0 x1) (fun m1 _ => bm (f_X9_put m1 (nI j) 1 x2) (fun m2 _ => bm (f_X9_put m2 (nI j) 2 x3) (fun m3 _ => bm (f_X9_put m3 (nI j) 3 x4) (fun m4 _ => if x2 = 1 then (f_X9_node_187 N m4 (nI (nmK n t)) (nI j) (nI j) 5 9999) else (f_X9_node_187 N m4 (nI (nmK n t)) (nI j) (nI j) 5 0)))))) (fun x => setC m 112 (fun i => if 27 + 20 * j ≤ i ∧ i < 27 + 20 * j + x then 0 else upd T 0 (T 0 + 1) i)) ?_ ?_ 20 0 N (by omega) (by omega)
  · have e : setC m 112 (fun i => if 27 + 20 * j ≤ i ∧ i < 27 + 20 * j + 0 then 0 else upd T 0 (T 0 + 1) i) = up m 112 0 (m 112 0 + 1) := by
      have : (fun i => if 27 + 20 * j ≤ i ∧ i < 27 + 20 * j + 0 then 0 else upd T 0 (T 0 + 1) i) = upd T 0 (T 0 + 1) := by
        funext i
        rw [if_neg (by omega)]
      rw [this, up_setC, hT]
    simp only [e] at hl
    refine hl.trans ?_
    clear hl
    have g : ∀ v, (if x2 = 1 then (9999 : Int32) else 0) = v → (bm (f_X9_put (setC m 112 (fun i => if 27 + 20 * j ≤ i ∧ i < 27 + 20 * j + 20 then 0 else upd T 0 (T 0 + 1) i)) (nI j) 0 x1) (fun m1 _ => bm (f_X9_put m1 (nI j) 1 x2) (fun m2 _ => bm (f_X9_put m2 (nI j) 2 x3) (fun m3 _ => bm (f_X9_put m3 (nI j) 3 x4) (fun m4 _ => (f_X9_node_187 N m4 (nI (nmK n t)) (nI j) (nI j) 5 v)))))) = bm (f_X9_push N (setC m 112 (tNode T j x1 x2 x3 x4 n t))) (fun m1 _ => some (m1, nI j)) := by
      intro v hv
      have p : ∀ (m : Mem) (v : Int32) (w : Nat), w < 20 → f_X9_put m (nI j) (nI w) v = some (setC m 112 (upd (m 112) (27 + 20 * j + w) v), ()) := fun m v w hw => m_put m v hj hw
      unfold f_X9_node_187
      simp only [show (0 : Int32) = nI 0 from rfl, show (1 : Int32) = nI 1 from rfl, show (2 : Int32) = nI 2 from rfl, show (3 : Int32) = nI 3 from rfl, show (5 : Int32) = nI 5 from rfl, show (10 : Int32) = nI 10 from rfl, show (11 : Int32) = nI 11 from rfl, p _ _ 0 (by decide), p _ _ 1 (by decide), p _ _ 2 (by decide), p _ _ 3 (by decide), p _ _ 5 (by decide), p _ _ 10 (by decide), p _ _ 11 (by decide), bm_some, setC_at, setC_setC, setC_ne (show 111 ≠ 112 by decide), h.1]
      rw [show nI 0 = (0 : Int32) from rfl, l2 _ ⟨by rw [setC_ne (by decide)]; exact h.1, by rw [setC_ne (by decide)]; exact h.2⟩, setC_at, setC_setC]
      congr 3
      funext i
      simp only [upd, tNode]
      by_cases hi : 27 + 20 * j ≤ i ∧ i < 27 + 20 * j + 20
      · obtain ⟨w, hw, rfl⟩ : ∃ w, w < 20 ∧ i = 27 + 20 * j + w := ⟨i - (27 + 20 * j), by omega, by omega⟩
        simp only [if_neg (show ¬ 27 + 20 * j + w = 0 by omega), if_pos (show 27 + 20 * j ≤ 27 + 20 * j + w ∧ 27 + 20 * j + w < 27 + 20 * j + 20 by omega), show 27 + 20 * j + w - (27 + 20 * j) = w by omega]
        have q : ∀ c, (27 + 20 * j + w = 27 + 20 * j + c) = (w = c) := fun c => by apply propext; omega
        simp only [q, tNw, hv]
        by_cases h12 : 12 ≤ w ∧ w < 12 + n
        · rw [if_pos (by omega), show 27 + 20 * j + w - (27 + 20 * j + 12) = w - 12 by omega]
          simp only [show ¬ w = 0 by omega, show ¬ w = 1 by omega, show ¬ w = 2 by omega, show ¬ w = 3 by omega, show ¬ w = 5 by omega, show ¬ w = 10 by omega, show ¬ w = 11 by omega, if_false, if_pos h12]
        · rw [if_neg (show ¬ (27 + 20 * j + 12 ≤ 27 + 20 * j + w ∧ 27 + 20 * j + w < 27 + 20 * j + 12 + n) by omega), if_neg h12]
          by_cases w11 : w = 11
          · subst w11; simp
          by_cases w10 : w = 10
          · subst w10; simp
          by_cases w5 : w = 5
          · subst w5; simp
          by_cases w3 : w = 3
          · subst w3; simp
          by_cases w2 : w = 2
          · subst w2; simp
          by_cases w1 : w = 1
          · subst w1; simp
          by_cases w0 : w = 0
          · subst w0; simp
          simp only [w11, w10, w5, w3, w2, w1, w0, if_false]
      · rw [if_neg (show ¬ (27 + 20 * j + 12 ≤ i ∧ i < 27 + 20 * j + 12 + n) by omega), if_neg (by omega), if_neg (by omega), if_neg (by omega), if_neg (by omega), if_neg (by omega), if_neg (by omega), if_neg (by omega), if_neg hi, if_neg hi]
        rfl
    by_cases hx : x2 = 1
    · simp only [if_pos hx]
      exact g 9999 (by rw [if_pos hx])
    · simp only [if_neg hx]
      exact g 0 (by rw [if_neg hx])
  · intro f i hi
    show f_X9_node_116b N (f_X9_node_116 N f) _ _ _ _ _ _ _ _ = _
    unfold f_X9_node_116b
    rw [if_neg (show ¬ (20 : Int32) ≤ nI i from nI_ge (b := 20) hi (by decide)), m_put _ _ hj hi, bm_some, nI_1, setC_at, setC_setC]
    congr 2
    funext a
    simp only [upd]
    by_cases ha : a = 27 + 20 * j + i
    · subst ha
      rw [if_pos rfl, if_pos (by omega)]
    · rw [if_neg ha]
      by_cases hb : 27 + 20 * j ≤ a ∧ a < 27 + 20 * j + i
      · rw [if_pos hb, if_pos (by omega)]
      · rw [if_neg hb, if_neg (show ¬ (27 + 20 * j ≤ a ∧ a < 27 + 20 * j + (i + 1)) by omega)]
  · intro f
    show f_X9_node_116b N (f_X9_node_116 N f) _ _ _ _ _ _ _ _ = _
    unfold f_X9_node_116b
    rw [if_pos (by decide)]
