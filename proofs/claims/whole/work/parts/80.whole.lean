set_option maxHeartbeats 4000000 in
set_option maxRecDepth 100000 in
theorem whole_start {p : Program} {e : Env} {s : State} {m : MethodId} {below : List Frame} {meth : Method} {c : Code} (l : Launch) (hflags : l.flags = flags0) {b L : Nat} {xs : Nat → Int32} (hL : L ≤ 2560) (C0 : lw_At p s m meth c b L xs) : W p l e room_1 s m #[Value.ref b] below meth c s.heap [] 0 0 (lw_Z below #[Value.ref b] s) (entryFrame m ([Value.ref b] : List Value).toArray 4) := by
  obtain ⟨hx, hb, hr, hml, hown, hts, hX, hbl, hlocks, hgv⟩ := C0
  have htb : ∀ w ∈ tb, w.before #[Value.ref b] s = true := fun w h => hts w (List.mem_filter.mp h).1
  obtain ⟨N, σ', hpure⟩ := law_pure L hL xs
  obtain ⟨D, cy, aK, aV, hEnv⟩ := start_env (L := L) (xs := xs) hts hgv
  generalize hE0 : ((fun _ => 0, D, cy, s.heap.size, aK, aV) : EnvT) = E0
  have hEC : EC E0 s := by rw [← hE0]; exact (hEnv (fun _ => 0)).1
  have hA : ∀ q : Nat, s.heap.size ≤ q → (fun q : Nat => s.heap.size ≤ q) q := fun _ h => h
  have hS : va_S (fun q : Nat => s.heap.size ≤ q) s.heap s.heap [] := va_S.rf
  have hP : va_P (eD E0) vwCl [] s.heap := fun k q h => by simp at h
  have hD : va_D (fun q : Nat => s.heap.size ≤ q) [] := ⟨fun i j p q h => by simp at h, fun k q h => by simp at h⟩
  have hl := lv_entry ([.ref b]) (n := 4) (Nat.le_of_ble_eq_true rfl)
  rw [lg_entry_eq]
  generalize (lg_sl ([.ref b]) ++ List.replicate (4 - (lg_sl ([.ref b])).length) Slot.unset).toArray = ls at hl ⊢
  have hl : lv_has ls 4 [(0, .ref b)] := hl
  refine va_new (ci := 8) (fs := [.null, .null, .null, .null, .null, .int 0, .int 0, .int 0]) (C := RX8) (T := TX8) (N := 8) hx hb htb inX8 tyX8 tyX8_ok hown (htb _ q85) (htb _ q86) (htb _ q70) hEC.1 hP hD hS hA rfl (fun j hj => by rcases (show j = 0 ∨ j = 1 ∨ j = 2 ∨ j = 3 ∨ j = 4 ∨ j = 5 ∨ j = 6 ∨ j = 7 by omega) with rfl | rfl | rfl | rfl | rfl | rfl | rfl | rfl <;> rfl) (Nat.le_of_ble_eq_true rfl) (Nat.le_of_ble_eq_true rfl) dL_law_0 (fun h0 H hP hD hS => ?_)
  refine lv_dup hx hb dL_law_3 rfl ?_
  refine call_goI (E := E0) (q := h0) (wr := []) (va_runI (As := []) (rest := [.ref h0]) (b := h0) (bytes := cX8_init) (maxL := 1) (index := 9) (n := 0) ⟨hx, hb, hml, hown, htb⟩ (c_X8_init l E0 h0 H.size) ⟨callB_of 0 htb (good_code q89) rfl rfl rfl (htb _ q70) (htb _ q87) (by decide +kernel) ⟨Nat.le_of_ble_eq_true rfl, Nat.le_of_ble_eq_true rfl⟩, rfl, htb _ q88⟩ ⟨PI_blind, fun U hU hW => ⟨rfl, by rw [hU], hEC.move hW, by rw [hU]; exact P_last (wr := []) hP⟩⟩ rfl rfl hl.1 rfl (lv_room (Nat.le_of_ble_eq_true rfl)) dL_law_4 ⟨Nat.le_of_ble_eq_true rfl, Nat.le_of_ble_eq_true rfl⟩) hA hP hD hS (fun w H locs hw hP hD hS => ?_)
  obtain ⟨ft, fr, ns, g5, fu, fs, fh, hs, g0, hg5, hg0, rfl⟩ := hw
  refine lv_astore_n (lv' := [(1, .ref h0), (0, .ref b)]) hx hb dL_law_7 rfl hl (by decide) rfl (fun ls hl => ?_)
  refine va_new (ci := 9) (fs := [.null, .null, .null, .int 0, .null, .null, .int 0, .null, .null, .null, .int 0, .null, .null, .null, .null, .int 0, .int 0, .int 0, .int 0, .int 0, .int 0, .int 0, .int 0, .long 0]) (C := RX9) (T := TX9) (N := 24) hx hb htb inX9 tyX9 tyX9_ok hown (htb _ q816) (htb _ q817) (htb _ q80) hEC.1 hP hD hS hA rfl (fun j hj => by rcases (show j = 0 ∨ j = 1 ∨ j = 2 ∨ j = 3 ∨ j = 4 ∨ j = 5 ∨ j = 6 ∨ j = 7 ∨ j = 8 ∨ j = 9 ∨ j = 10 ∨ j = 11 ∨ j = 12 ∨ j = 13 ∨ j = 14 ∨ j = 15 ∨ j = 16 ∨ j = 17 ∨ j = 18 ∨ j = 19 ∨ j = 20 ∨ j = 21 ∨ j = 22 ∨ j = 23 by omega) with rfl | rfl | rfl | rfl | rfl | rfl | rfl | rfl | rfl | rfl | rfl | rfl | rfl | rfl | rfl | rfl | rfl | rfl | rfl | rfl | rfl | rfl | rfl | rfl <;> rfl) (Nat.le_of_ble_eq_true rfl) (Nat.le_of_ble_eq_true rfl) dL_law_8 (fun r8 H hP hD hS => ?_)
  refine lv_dup hx hb dL_law_11 rfl ?_
  refine call_goI (E := E0) (q := r8) (va_runI (As := []) (rest := [.ref r8]) (b := r8) (bytes := cX9_init) (maxL := 1) (index := 12) (n := 0) ⟨hx, hb, hml, hown, htb⟩ (c_X9_init l E0 r8 H.size) ⟨callB_of 0 htb (good_code q820) rfl rfl rfl (htb _ q80) (htb _ q818) (by decide +kernel) ⟨Nat.le_of_ble_eq_true rfl, Nat.le_of_ble_eq_true rfl⟩, rfl, htb _ q819⟩ ⟨PI_blind, fun U hU hW => ⟨rfl, by rw [hU], hEC.move hW, by rw [hU]; exact P_last hP⟩⟩ rfl rfl hl.1 rfl (lv_room (Nat.le_of_ble_eq_true rfl)) dL_law_12 ⟨Nat.le_of_ble_eq_true rfl, Nat.le_of_ble_eq_true rfl⟩) hA hP hD hS (fun w H locs hw hP hD hS => ?_)
  obtain ⟨fm, rfl, rfl⟩ := hw
  refine lv_astore_n (lv' := [(2, .ref (fm 0)), (1, .ref h0), (0, .ref b)]) hx hb dL_law_15 rfl hl (by decide) rfl (fun ls hl => ?_)
  have hl : lv_has ls 4 [(0, .ref b), (1, .ref h0), (2, .ref (fm 0))] := lv_sub hl [2, 1, 0] rfl
  subst hE0
  generalize hE1 : ((adF h0 ft fr ns fu fs fh hs fm, D, cy, s.heap.size, aK, aV) : EnvT) = E1
  have hPW : va_P (eD E1) vwCl (Wd E1 m_init) H := by
    subst hE1
    exact world_ok _ H h0 ft fr ns g5 fu fs fh hs g0 fm rfl hg5 hg0 hP
  have hlen : (Wd E1 m_init).length = 124 := by unfold Wd; rw [List.length_map, List.length_range]
  have hadr : ∀ k : Nat, k < 124 → ∃ x, (wBo ((fun _ => 0, D, cy, s.heap.size, aK, aV) : EnvT) h0 ft fr ns g5 fu fs fh hs g0 ++ wMo ((fun _ => 0, D, cy, s.heap.size, aK, aV) : EnvT) fm)[k]? = some (eAd E1 k, x) := by
    subst hE1
    exact adr_ok D cy s.heap.size aK aV h0 ft fr ns g5 fu fs fh hs g0 fm
  have hOk : EOk E1 := by
    refine ⟨fun i j hi hj he => ?_, fun i hi => ?_⟩
    · obtain ⟨x, hx1⟩ := hadr i hi
      obtain ⟨y, hy1⟩ := hadr j hj
      exact hD.1 i j _ _ hx1 hy1 he
    · obtain ⟨x, hx1⟩ := hadr i hi
      have := hD.2 i _ hx1
      rw [show eB E1 = s.heap.size by rw [← hE1]; rfl]
      exact this
  have hEK : EK E1 s := by
    subst hE1
    exact (hEnv (adF h0 ft fr ns fu fs fh hs fm)).2 hOk
  have hB1 : eB E1 = s.heap.size := by rw [← hE1]; rfl
  have hS1 : va_S (eA E1) s.heap H locs := by
    refine ⟨hS.1, fun q h1 h2 => hS.2.1 q h1 (fun h3 => h2 (show eB E1 ≤ q by rw [hB1]; exact h3)), fun x hx => show eB E1 ≤ x.base by rw [hB1]; exact hS.2.2 x hx⟩
  have hl1 : lv_has ls 4 [(0, .ref b), (1, .ref (eAd E1 0)), (2, .ref (eAd E1 111))] := by
    subst hE1
    exact hl
  have K := w_law l E1 N L xs b m_init σ' 1 hpure p e s m #[Value.ref b] below meth c H locs ls ⟨hx, hb, hml, hr, hlocks, hown, htb, hEK⟩ hPW hS1 hl1
  exact W_mono K (fun t ht => ht rfl ⟨hX, hbl, hB1⟩ rfl)
