def rm_X6_startMessage : Room := { frames := 0, cells := 0, slots := 0, locals := 0 }
def f_X6_startMessage (m0 : Mem) : Option (Mem × Unit) := lm (up m0 38 1 0) (fun m1 => lm (up m1 38 2 0) (fun m2 => some (m2, ())))
theorem c_X6_startMessage (l : Launch) (E : EnvT) (m0 : Mem) : CT l E yX6_startMessage cX6_startMessage 1 none (rm_X6_startMessage) rvV (f_X6_startMessage m0) [.ref (eAd E 38)] m0 := by
  refine CT.ofV (own := RX6) (by decide) rfl (Nat.le_of_ble_eq_true rfl) ?_
  show V l E RX6 cX6_startMessage 1 none (rm_X6_startMessage) 0 0 (Zm E) rvV _ m0 0 [(0, .ref (eAd E 38))] []
  unfold f_X6_startMessage
  refine v_aload_n dX6_startMessage_0 rfl 0 rfl ?_
  refine v_iconst (v := 0) dX6_startMessage_1 rfl ?_
  refine pf_X6_at kc38 q201 dX6_startMessage_2 (fun m1 => ?_)
  refine v_aload_n dX6_startMessage_5 rfl 0 rfl ?_
  refine v_iconst (v := 0) dX6_startMessage_6 rfl ?_
  refine pf_X6_branchCount kc38 q202 dX6_startMessage_7 (fun m2 => ?_)
  exact v_vret dX6_startMessage_10

def rm_X4_pastBlanks : Room := { frames := 1, cells := 0, slots := 0, locals := 21 }
def f_X4_pastBlanks_2b (N : Nat) (rec_2 : Mem → Int32 → Option (Mem × Int32)) (m0 : Mem) (x2 : Int32) : Option (Mem × Int32) := if (m0 1 1) ≤ x2 then (some (m0, x2)) else (bm (f_X4_byteAt m0 x2) (fun m1 r1 => if r1 = 32 then (rec_2 m1 (x2 + 1)) else (some (m1, x2))))
def f_X4_pastBlanks_2 (N : Nat) : Nat → Mem → Int32 → Option (Mem × Int32)
  | 0 => fun _ _ => none
  | n + 1 => f_X4_pastBlanks_2b N (f_X4_pastBlanks_2 N n)
theorem w_X4_pastBlanks_2b (l : Launch) (E : EnvT) (N : Nat) (rec_2 : Mem → Int32 → Option (Mem × Int32)) (hrec_2 : ∀ (m0 : Mem) (x2 : Int32), V l E RX4 cX4_pastBlanks 3 (some .int) (rm_X4_pastBlanks) 0 0 (Zm E) rvI (rec_2 m0 x2) m0 2 [(0, .ref (eAd E 1)), (2, .int x2)] []) (m0 : Mem) (x2 : Int32) : V l E RX4 cX4_pastBlanks 3 (some .int) (rm_X4_pastBlanks) 0 0 (Zm E) rvI (f_X4_pastBlanks_2b N rec_2 m0 x2) m0 2 [(0, .ref (eAd E 1)), (2, .int x2)] [] := by
  unfold f_X4_pastBlanks_2b
  refine v_iload_n dX4_pastBlanks_2 rfl 1 rfl ?_
  refine v_aload_n dX4_pastBlanks_3 rfl 0 rfl ?_
  refine gf_X4_length kc1 q100 dX4_pastBlanks_4 ?_
  refine v_icmp_ge (tgt := 26) dX4_pastBlanks_7 (by decide) ?_ ?_
  · refine v_iload_n dX4_pastBlanks_26 rfl 1 rfl ?_
    exact v_iret dX4_pastBlanks_27
  · refine v_aload_n dX4_pastBlanks_10 rfl 0 rfl ?_
    refine v_iload_n dX4_pastBlanks_11 rfl 1 rfl ?_
    refine v_callVi (q := 1) (ci := 4) (C := RX4) (T := TX4) (NN := 2) (As := [.int x2]) (rest := []) (c_X4_byteAt l E m0 x2) kv_X4_byteAt kc1 (by decide) rfl q385 ⟨rfl, rfl⟩ ⟨Nat.le_of_ble_eq_true rfl, Nat.le_of_ble_eq_true rfl⟩ ⟨Nat.zero_le _, Nat.zero_le _⟩ rfl rfl (Nat.le_of_ble_eq_true rfl) dX4_pastBlanks_12 (fun m1 r1 => ?_)
    refine v_bipush (v := 32) dX4_pastBlanks_15 rfl ?_
    refine v_icmp_ne (tgt := 26) dX4_pastBlanks_17 (by decide) ?_ ?_
    · refine v_iload_n dX4_pastBlanks_26 rfl 1 rfl ?_
      exact v_iret dX4_pastBlanks_27
    · refine v_iinc (v := (x2 + 1)) (lv' := [(2, .int (x2 + 1)), (0, .ref (eAd E 1))]) dX4_pastBlanks_20 1 rfl rfl (Nat.le_of_ble_eq_true rfl) rfl ?_
      refine v_goto (tgt := 2) dX4_pastBlanks_23 (by decide) ?_
      refine v_sub [1, 0] rfl ?_
      exact hrec_2 m1 (x2 + 1)
theorem w_X4_pastBlanks_2 (l : Launch) (E : EnvT) (N : Nat) : ∀ (n : Nat) (m0 : Mem) (x2 : Int32), V l E RX4 cX4_pastBlanks 3 (some .int) (rm_X4_pastBlanks) 0 0 (Zm E) rvI (f_X4_pastBlanks_2 N n m0 x2) m0 2 [(0, .ref (eAd E 1)), (2, .int x2)] [] := by
  intro n
  induction n with
  | zero => intros; exact v_none
  | succ n ih => exact w_X4_pastBlanks_2b l E N _ ih
def f_X4_pastBlanks (N : Nat) (m0 : Mem) (x1 : Int32) : Option (Mem × Int32) := (f_X4_pastBlanks_2 N N m0 x1)
theorem c_X4_pastBlanks (l : Launch) (E : EnvT) (N : Nat) (m0 : Mem) (x1 : Int32) : CT l E yX4_pastBlanks cX4_pastBlanks 3 (some .int) (rm_X4_pastBlanks) rvI (f_X4_pastBlanks N m0 x1) [.ref (eAd E 1), .int x1] m0 := by
  refine CT.ofV (own := RX4) (by decide) rfl (Nat.le_of_ble_eq_true rfl) ?_
  show V l E RX4 cX4_pastBlanks 3 (some .int) (rm_X4_pastBlanks) 0 0 (Zm E) rvI _ m0 0 [(0, .ref (eAd E 1)), (1, .int x1)] []
  unfold f_X4_pastBlanks
  refine v_iload_n dX4_pastBlanks_0 rfl 1 rfl ?_
  refine v_istore_n (lv' := [(2, .int x1), (0, .ref (eAd E 1)), (1, .int x1)]) dX4_pastBlanks_1 rfl (Nat.le_of_ble_eq_true rfl) rfl ?_
  refine v_sub [1, 0] rfl ?_
  exact w_X4_pastBlanks_2 l E N N m0 x1

def rm_X8_isLetter : Room := { frames := 0, cells := 0, slots := 0, locals := 0 }
def f_X8_isLetter_24 (m0 : Mem) : Option (Mem × Int32) := some (m0, 1)
theorem w_X8_isLetter_24 (l : Launch) (E : EnvT) (m0 : Mem) : V l E RX8 cX8_isLetter 1 (some .boolean) (rm_X8_isLetter) 0 0 (Zm E) rvI (f_X8_isLetter_24 m0) m0 24 [] [] := by
  unfold f_X8_isLetter_24
  refine v_iconst (v := 1) dX8_isLetter_24 rfl ?_
  refine v_goto (tgt := 29) dX8_isLetter_25 (by decide) ?_
  exact v_zret rfl dX8_isLetter_29
def f_X8_isLetter_12 (m0 : Mem) (x0 : Int32) : Option (Mem × Int32) := if x0 < 97 then (some (m0, 0)) else (if 122 < x0 then (some (m0, 0)) else (f_X8_isLetter_24 m0))
theorem w_X8_isLetter_12 (l : Launch) (E : EnvT) (m0 : Mem) (x0 : Int32) : V l E RX8 cX8_isLetter 1 (some .boolean) (rm_X8_isLetter) 0 0 (Zm E) rvI (f_X8_isLetter_12 m0 x0) m0 12 [(0, .int x0)] [] := by
  unfold f_X8_isLetter_12
  refine v_iload_n dX8_isLetter_12 rfl 0 rfl ?_
  refine v_bipush (v := 97) dX8_isLetter_13 rfl ?_
  refine v_icmp_lt (tgt := 28) dX8_isLetter_15 (by decide) ?_ ?_
  · refine v_iconst (v := 0) dX8_isLetter_28 rfl ?_
    exact v_zret rfl dX8_isLetter_29
  · refine v_iload_n dX8_isLetter_18 rfl 0 rfl ?_
    refine v_bipush (v := 122) dX8_isLetter_19 rfl ?_
    refine v_icmp_gt (tgt := 28) dX8_isLetter_21 (by decide) ?_ ?_
    · refine v_iconst (v := 0) dX8_isLetter_28 rfl ?_
      exact v_zret rfl dX8_isLetter_29
    · refine v_sub [] rfl ?_
      exact w_X8_isLetter_24 l E m0
def f_X8_isLetter (m0 : Mem) (x0 : Int32) : Option (Mem × Int32) := if x0 < 65 then (f_X8_isLetter_12 m0 x0) else (if x0 ≤ 90 then (f_X8_isLetter_24 m0) else (f_X8_isLetter_12 m0 x0))
theorem c_X8_isLetter (l : Launch) (E : EnvT) (m0 : Mem) (x0 : Int32) : CT l E yX8_isLetter cX8_isLetter 1 (some .boolean) (rm_X8_isLetter) rvI (f_X8_isLetter m0 x0) [.int x0] m0 := by
  refine CT.ofV (own := RX8) (by decide) rfl (Nat.le_of_ble_eq_true rfl) ?_
  show V l E RX8 cX8_isLetter 1 (some .boolean) (rm_X8_isLetter) 0 0 (Zm E) rvI _ m0 0 [(0, .int x0)] []
  unfold f_X8_isLetter
  refine v_iload_n dX8_isLetter_0 rfl 0 rfl ?_
  refine v_bipush (v := 65) dX8_isLetter_1 rfl ?_
  refine v_icmp_lt (tgt := 12) dX8_isLetter_3 (by decide) ?_ ?_
  · exact w_X8_isLetter_12 l E m0 x0
  · refine v_iload_n dX8_isLetter_6 rfl 0 rfl ?_
    refine v_bipush (v := 90) dX8_isLetter_7 rfl ?_
    refine v_icmp_le (tgt := 24) dX8_isLetter_9 (by decide) ?_ ?_
    · refine v_sub [] rfl ?_
      exact w_X8_isLetter_24 l E m0
    · exact w_X8_isLetter_12 l E m0 x0

def rm_X4_pastLetters : Room := { frames := 1, cells := 0, slots := 0, locals := 21 }
def f_X4_pastLetters_2b (N : Nat) (rec_2 : Mem → Int32 → Option (Mem × Int32)) (m0 : Mem) (x2 : Int32) : Option (Mem × Int32) := if (m0 1 1) ≤ x2 then (some (m0, x2)) else (bm (f_X4_byteAt m0 x2) (fun m1 r1 => bm (f_X8_isLetter m1 r1) (fun m2 r2 => if r2 = 0 then (some (m2, x2)) else (rec_2 m2 (x2 + 1)))))
def f_X4_pastLetters_2 (N : Nat) : Nat → Mem → Int32 → Option (Mem × Int32)
  | 0 => fun _ _ => none
  | n + 1 => f_X4_pastLetters_2b N (f_X4_pastLetters_2 N n)
theorem w_X4_pastLetters_2b (l : Launch) (E : EnvT) (N : Nat) (rec_2 : Mem → Int32 → Option (Mem × Int32)) (hrec_2 : ∀ (m0 : Mem) (x2 : Int32), V l E RX4 cX4_pastLetters 3 (some .int) (rm_X4_pastLetters) 0 0 (Zm E) rvI (rec_2 m0 x2) m0 2 [(0, .ref (eAd E 1)), (2, .int x2)] []) (m0 : Mem) (x2 : Int32) : V l E RX4 cX4_pastLetters 3 (some .int) (rm_X4_pastLetters) 0 0 (Zm E) rvI (f_X4_pastLetters_2b N rec_2 m0 x2) m0 2 [(0, .ref (eAd E 1)), (2, .int x2)] [] := by
  unfold f_X4_pastLetters_2b
  refine v_iload_n dX4_pastLetters_2 rfl 1 rfl ?_
  refine v_aload_n dX4_pastLetters_3 rfl 0 rfl ?_
  refine gf_X4_length kc1 q100 dX4_pastLetters_4 ?_
  refine v_icmp_ge (tgt := 27) dX4_pastLetters_7 (by decide) ?_ ?_
  · refine v_iload_n dX4_pastLetters_27 rfl 1 rfl ?_
    exact v_iret dX4_pastLetters_28
  · refine v_aload_n dX4_pastLetters_10 rfl 0 rfl ?_
    refine v_iload_n dX4_pastLetters_11 rfl 1 rfl ?_
    refine v_callVi (q := 1) (ci := 4) (C := RX4) (T := TX4) (NN := 2) (As := [.int x2]) (rest := []) (c_X4_byteAt l E m0 x2) kv_X4_byteAt kc1 (by decide) rfl q385 ⟨rfl, rfl⟩ ⟨Nat.le_of_ble_eq_true rfl, Nat.le_of_ble_eq_true rfl⟩ ⟨Nat.zero_le _, Nat.zero_le _⟩ rfl rfl (Nat.le_of_ble_eq_true rfl) dX4_pastLetters_12 (fun m1 r1 => ?_)
    refine v_callSNi (As := [.int r1]) (rest := []) (c_X8_isLetter l E m1 r1) ks_X8_isLetter nq495 ⟨rfl, rfl⟩ ⟨Nat.le_of_ble_eq_true rfl, Nat.le_of_ble_eq_true rfl⟩ ⟨Nat.zero_le _, Nat.zero_le _⟩ rfl rfl (Nat.le_of_ble_eq_true rfl) dX4_pastLetters_15 (fun m2 r2 => ?_)
    refine v_if_eq (tgt := 27) dX4_pastLetters_18 (by decide) ?_ ?_
    · refine v_iload_n dX4_pastLetters_27 rfl 1 rfl ?_
      exact v_iret dX4_pastLetters_28
    · refine v_iinc (v := (x2 + 1)) (lv' := [(2, .int (x2 + 1)), (0, .ref (eAd E 1))]) dX4_pastLetters_21 1 rfl rfl (Nat.le_of_ble_eq_true rfl) rfl ?_
      refine v_goto (tgt := 2) dX4_pastLetters_24 (by decide) ?_
      refine v_sub [1, 0] rfl ?_
      exact hrec_2 m2 (x2 + 1)
theorem w_X4_pastLetters_2 (l : Launch) (E : EnvT) (N : Nat) : ∀ (n : Nat) (m0 : Mem) (x2 : Int32), V l E RX4 cX4_pastLetters 3 (some .int) (rm_X4_pastLetters) 0 0 (Zm E) rvI (f_X4_pastLetters_2 N n m0 x2) m0 2 [(0, .ref (eAd E 1)), (2, .int x2)] [] := by
  intro n
  induction n with
  | zero => intros; exact v_none
  | succ n ih => exact w_X4_pastLetters_2b l E N _ ih
def f_X4_pastLetters (N : Nat) (m0 : Mem) (x1 : Int32) : Option (Mem × Int32) := (f_X4_pastLetters_2 N N m0 x1)
theorem c_X4_pastLetters (l : Launch) (E : EnvT) (N : Nat) (m0 : Mem) (x1 : Int32) : CT l E yX4_pastLetters cX4_pastLetters 3 (some .int) (rm_X4_pastLetters) rvI (f_X4_pastLetters N m0 x1) [.ref (eAd E 1), .int x1] m0 := by
  refine CT.ofV (own := RX4) (by decide) rfl (Nat.le_of_ble_eq_true rfl) ?_
  show V l E RX4 cX4_pastLetters 3 (some .int) (rm_X4_pastLetters) 0 0 (Zm E) rvI _ m0 0 [(0, .ref (eAd E 1)), (1, .int x1)] []
  unfold f_X4_pastLetters
  refine v_iload_n dX4_pastLetters_0 rfl 1 rfl ?_
  refine v_istore_n (lv' := [(2, .int x1), (0, .ref (eAd E 1)), (1, .int x1)]) dX4_pastLetters_1 rfl (Nat.le_of_ble_eq_true rfl) rfl ?_
  refine v_sub [1, 0] rfl ?_
  exact w_X4_pastLetters_2 l E N N m0 x1

def rm_X6_readCommonHeader : Room := { frames := 2, cells := 0, slots := 0, locals := 43 }
def f_X6_readCommonHeader (N : Nat) (m0 : Mem) : Option (Mem × Int32) := lm (up m0 38 4 ((m0 38 1) + 1)) (fun m1 => bm (f_X4_pastLetters N m1 (m1 38 4)) (fun m2 r2 => lm (up m2 38 5 r2) (fun m3 => lm (up m3 38 1 (m3 38 5)) (fun m4 => bm (f_X8_isWithin m4 ((m4 38 5) - (m4 38 4)) 1 8) (fun m5 r5 => gd (isB r5) (some (m5, r5)))))))
theorem c_X6_readCommonHeader (l : Launch) (E : EnvT) (N : Nat) (m0 : Mem) : CT l E yX6_readCommonHeader cX6_readCommonHeader 2 (some .boolean) (rm_X6_readCommonHeader) rvI (f_X6_readCommonHeader N m0) [.ref (eAd E 38), .ref (eAd E 1)] m0 := by
  refine CT.ofV (own := RX6) (by decide) rfl (Nat.le_of_ble_eq_true rfl) ?_
  show V l E RX6 cX6_readCommonHeader 2 (some .boolean) (rm_X6_readCommonHeader) 0 0 (Zm E) rvI _ m0 0 [(0, .ref (eAd E 38)), (1, .ref (eAd E 1))] []
  unfold f_X6_readCommonHeader
  refine v_aload_n dX6_readCommonHeader_0 rfl 0 rfl ?_
  refine v_aload_n dX6_readCommonHeader_1 rfl 0 rfl ?_
  refine gf_X6_at kc38 q201 dX6_readCommonHeader_2 ?_
  refine v_iconst (v := 1) dX6_readCommonHeader_5 rfl ?_
  refine v_iadd dX6_readCommonHeader_6 ?_
  refine pf_X6_commonStart kc38 q205 dX6_readCommonHeader_7 (fun m1 => ?_)
  refine v_aload_n dX6_readCommonHeader_10 rfl 0 rfl ?_
  refine v_aload_n dX6_readCommonHeader_11 rfl 1 rfl ?_
  refine v_aload_n dX6_readCommonHeader_12 rfl 0 rfl ?_
  refine gf_X6_commonStart kc38 q205 dX6_readCommonHeader_13 ?_
  refine v_callVi (q := 1) (ci := 4) (C := RX4) (T := TX4) (NN := 2) (As := [.int (m1 38 4)]) (rest := [.ref (eAd E 38)]) (c_X4_pastLetters l E N m1 (m1 38 4)) kv_X4_pastLetters kc1 (by decide) rfl q491 ⟨rfl, rfl⟩ ⟨Nat.le_of_ble_eq_true rfl, Nat.le_of_ble_eq_true rfl⟩ ⟨Nat.zero_le _, Nat.zero_le _⟩ rfl rfl (Nat.le_of_ble_eq_true rfl) dX6_readCommonHeader_16 (fun m2 r2 => ?_)
  refine pf_X6_commonEnd kc38 q206 dX6_readCommonHeader_19 (fun m3 => ?_)
  refine v_aload_n dX6_readCommonHeader_22 rfl 0 rfl ?_
  refine v_aload_n dX6_readCommonHeader_23 rfl 0 rfl ?_
  refine gf_X6_commonEnd kc38 q206 dX6_readCommonHeader_24 ?_
  refine pf_X6_at kc38 q201 dX6_readCommonHeader_27 (fun m4 => ?_)
  refine v_aload_n dX6_readCommonHeader_30 rfl 0 rfl ?_
  refine gf_X6_commonEnd kc38 q206 dX6_readCommonHeader_31 ?_
  refine v_aload_n dX6_readCommonHeader_34 rfl 0 rfl ?_
  refine gf_X6_commonStart kc38 q205 dX6_readCommonHeader_35 ?_
  refine v_isub dX6_readCommonHeader_38 ?_
  refine v_iconst (v := 1) dX6_readCommonHeader_39 rfl ?_
  refine v_bipush (v := 8) dX6_readCommonHeader_40 rfl ?_
  refine v_callSNi (As := [.int ((m4 38 5) - (m4 38 4)), .int 1, .int 8]) (rest := []) (c_X8_isWithin l E m4 ((m4 38 5) - (m4 38 4)) 1 8) ks_X8_isWithin nq498 ⟨rfl, rfl⟩ ⟨Nat.le_of_ble_eq_true rfl, Nat.le_of_ble_eq_true rfl⟩ ⟨Nat.zero_le _, Nat.zero_le _⟩ rfl rfl (Nat.le_of_ble_eq_true rfl) dX6_readCommonHeader_42 (fun m5 r5 => ?_)
  refine v_gd (fun g45 => ?_)
  exact v_zret g45 dX6_readCommonHeader_45

def rm_X7_add : Room := { frames := 0, cells := 0, slots := 0, locals := 0 }
def f_X7_add (m0 : Mem) (x1 : Int32) (x2 : Int32) (x3 : Int32) : Option (Mem × Int32) := if (m0 39 3) < 0 then (some (m0, 0)) else (if (m0 39 3) < 6 then (gd (inR (m0 39 3) 6) (lm (up m0 40 (ix (m0 39 3)) x1) (fun m1 => gd (inR (m1 39 3) 6) (lm (up m1 41 (ix (m1 39 3)) x2) (fun m2 => gd (inR (m2 39 3) 6) (lm (up m2 42 (ix (m2 39 3)) x3) (fun m3 => lm (up m3 39 3 ((m3 39 3) + 1)) (fun m4 => some (m4, 1))))))))) else (some (m0, 0)))
theorem c_X7_add (l : Launch) (E : EnvT) (m0 : Mem) (x1 : Int32) (x2 : Int32) (x3 : Int32) : CT l E yX7_add cX7_add 4 (some .boolean) (rm_X7_add) rvI (f_X7_add m0 x1 x2 x3) [.ref (eAd E 39), .int x1, .int x2, .int x3] m0 := by
  refine CT.ofV (own := RX7) (by decide) rfl (Nat.le_of_ble_eq_true rfl) ?_
  show V l E RX7 cX7_add 4 (some .boolean) (rm_X7_add) 0 0 (Zm E) rvI _ m0 0 [(0, .ref (eAd E 39)), (1, .int x1), (2, .int x2), (3, .int x3)] []
  unfold f_X7_add
  refine v_aload_n dX7_add_0 rfl 0 rfl ?_
  refine gf_X7_count kc39 q187 dX7_add_1 ?_
  refine v_if_lt (tgt := 16) dX7_add_4 (by decide) ?_ ?_
  · refine v_iconst (v := 0) dX7_add_16 rfl ?_
    exact v_zret rfl dX7_add_17
  · refine v_aload_n dX7_add_7 rfl 0 rfl ?_
    refine gf_X7_count kc39 q187 dX7_add_8 ?_
    refine v_bipush (v := 6) dX7_add_11 rfl ?_
    refine v_icmp_lt (tgt := 18) dX7_add_13 (by decide) ?_ ?_
    · refine v_aload_n dX7_add_18 rfl 0 rfl ?_
      refine gf_X7_starts kc39 q181 dX7_add_19 ?_
      refine v_aload_n dX7_add_22 rfl 0 rfl ?_
      refine gf_X7_count kc39 q187 dX7_add_23 ?_
      refine v_iload_n dX7_add_26 rfl 1 rfl ?_
      refine v_gd (fun g27 => ?_)
      refine v_iast kc40 rfl g27 dX7_add_27 (fun m1 => ?_)
      refine v_aload_n dX7_add_28 rfl 0 rfl ?_
      refine gf_X7_lengths kc39 q183 dX7_add_29 ?_
      refine v_aload_n dX7_add_32 rfl 0 rfl ?_
      refine gf_X7_count kc39 q187 dX7_add_33 ?_
      refine v_iload_n dX7_add_36 rfl 2 rfl ?_
      refine v_gd (fun g37 => ?_)
      refine v_iast kc41 rfl g37 dX7_add_37 (fun m2 => ?_)
      refine v_aload_n dX7_add_38 rfl 0 rfl ?_
      refine gf_X7_figures kc39 q185 dX7_add_39 ?_
      refine v_aload_n dX7_add_42 rfl 0 rfl ?_
      refine gf_X7_count kc39 q187 dX7_add_43 ?_
      refine v_iload_n dX7_add_46 rfl 3 rfl ?_
      refine v_gd (fun g47 => ?_)
      refine v_iast kc42 rfl g47 dX7_add_47 (fun m3 => ?_)
      refine v_aload_n dX7_add_48 rfl 0 rfl ?_
      refine v_dup dX7_add_49 rfl ?_
      refine gf_X7_count kc39 q187 dX7_add_50 ?_
      refine v_iconst (v := 1) dX7_add_53 rfl ?_
      refine v_iadd dX7_add_54 ?_
      refine pf_X7_count kc39 q187 dX7_add_55 (fun m4 => ?_)
      refine v_iconst (v := 1) dX7_add_58 rfl ?_
      exact v_zret rfl dX7_add_59
    · refine v_iconst (v := 0) dX7_add_16 rfl ?_
      exact v_zret rfl dX7_add_17

def rm_X6_readWord : Room := { frames := 2, cells := 0, slots := 0, locals := 43 }
def f_X6_readWord_74 (N : Nat) (m0 : Mem) (x2 : Int32) (x3 : Int32) (x4 : Int32) : Option (Mem × Int32) := bm (f_X7_add m0 x2 (x3 - x2) x4) (fun m1 r1 => gd (isB r1) (some (m1, r1)))
theorem w_X6_readWord_74 (l : Launch) (E : EnvT) (N : Nat) (m0 : Mem) (x2 : Int32) (x3 : Int32) (x4 : Int32) : V l E RX6 cX6_readWord 5 (some .boolean) (rm_X6_readWord) 0 0 (Zm E) rvI (f_X6_readWord_74 N m0 x2 x3 x4) m0 74 [(0, .ref (eAd E 38)), (2, .int x2), (3, .int x3), (4, .int x4)] [] := by
  unfold f_X6_readWord_74
  refine v_aload_n dX6_readWord_74 rfl 0 rfl ?_
  refine gf_X6_words kc38 q199 dX6_readWord_75 ?_
  refine v_iload_n dX6_readWord_78 rfl 1 rfl ?_
  refine v_iload_n dX6_readWord_79 rfl 2 rfl ?_
  refine v_iload_n dX6_readWord_80 rfl 1 rfl ?_
  refine v_isub dX6_readWord_81 ?_
  refine v_iload dX6_readWord_82 3 rfl ?_
  refine v_callVi (q := 39) (ci := 7) (C := RX7) (T := TX7) (NN := 4) (As := [.int x2, .int (x3 - x2), .int x4]) (rest := []) (c_X7_add l E m0 x2 (x3 - x2) x4) kv_X7_add kc39 (by decide) rfl q511 ⟨rfl, rfl⟩ ⟨Nat.le_of_ble_eq_true rfl, Nat.le_of_ble_eq_true rfl⟩ ⟨Nat.zero_le _, Nat.zero_le _⟩ rfl rfl (Nat.le_of_ble_eq_true rfl) dX6_readWord_84 (fun m1 r1 => ?_)
  refine v_gd (fun g87 => ?_)
  exact v_zret g87 dX6_readWord_87
def f_X6_readWord (N : Nat) (m0 : Mem) : Option (Mem × Int32) := bm (f_X4_pastLetters N m0 (m0 38 1)) (fun m1 r1 => bm (f_X8_isWithin m1 (r1 - (m0 38 1)) 1 8) (fun m2 r2 => if r2 = 0 then (some (m2, 0)) else (lm (up m2 38 1 r1) (fun m3 => bm (f_X4_byteAt m3 (m3 38 1)) (fun m4 r4 => bm (f_X8_isWithin m4 r4 49 57) (fun m5 r5 => if r5 = 0 then (f_X6_readWord_74 N m5 (m0 38 1) r1 0) else (bm (f_X4_byteAt m5 (m5 38 1)) (fun m6 r6 => lm (up m6 38 1 ((m6 38 1) + 1)) (fun m7 => (f_X6_readWord_74 N m7 (m0 38 1) r1 (r6 - 48)))))))))))
theorem c_X6_readWord (l : Launch) (E : EnvT) (N : Nat) (m0 : Mem) : CT l E yX6_readWord cX6_readWord 5 (some .boolean) (rm_X6_readWord) rvI (f_X6_readWord N m0) [.ref (eAd E 38), .ref (eAd E 1)] m0 := by
  refine CT.ofV (own := RX6) (by decide) rfl (Nat.le_of_ble_eq_true rfl) ?_
  show V l E RX6 cX6_readWord 5 (some .boolean) (rm_X6_readWord) 0 0 (Zm E) rvI _ m0 0 [(0, .ref (eAd E 38)), (1, .ref (eAd E 1))] []
  unfold f_X6_readWord
  refine v_aload_n dX6_readWord_0 rfl 0 rfl ?_
  refine gf_X6_at kc38 q201 dX6_readWord_1 ?_
  refine v_istore_n (lv' := [(2, .int (m0 38 1)), (0, .ref (eAd E 38)), (1, .ref (eAd E 1))]) dX6_readWord_4 rfl (Nat.le_of_ble_eq_true rfl) rfl ?_
  refine v_aload_n dX6_readWord_5 rfl 2 rfl ?_
  refine v_iload_n dX6_readWord_6 rfl 0 rfl ?_
  refine v_callVi (q := 1) (ci := 4) (C := RX4) (T := TX4) (NN := 2) (As := [.int (m0 38 1)]) (rest := []) (c_X4_pastLetters l E N m0 (m0 38 1)) kv_X4_pastLetters kc1 (by decide) rfl q491 ⟨rfl, rfl⟩ ⟨Nat.le_of_ble_eq_true rfl, Nat.le_of_ble_eq_true rfl⟩ ⟨Nat.zero_le _, Nat.zero_le _⟩ rfl rfl (Nat.le_of_ble_eq_true rfl) dX6_readWord_7 (fun m1 r1 => ?_)
  refine v_istore_n (lv' := [(3, .int r1), (2, .int (m0 38 1)), (0, .ref (eAd E 38)), (1, .ref (eAd E 1))]) dX6_readWord_10 rfl (Nat.le_of_ble_eq_true rfl) rfl ?_
  refine v_iload_n dX6_readWord_11 rfl 0 rfl ?_
  refine v_iload_n dX6_readWord_12 rfl 1 rfl ?_
  refine v_isub dX6_readWord_13 ?_
  refine v_iconst (v := 1) dX6_readWord_14 rfl ?_
  refine v_bipush (v := 8) dX6_readWord_15 rfl ?_
  refine v_callSNi (As := [.int (r1 - (m0 38 1)), .int 1, .int 8]) (rest := []) (c_X8_isWithin l E m1 (r1 - (m0 38 1)) 1 8) ks_X8_isWithin nq498 ⟨rfl, rfl⟩ ⟨Nat.le_of_ble_eq_true rfl, Nat.le_of_ble_eq_true rfl⟩ ⟨Nat.zero_le _, Nat.zero_le _⟩ rfl rfl (Nat.le_of_ble_eq_true rfl) dX6_readWord_17 (fun m2 r2 => ?_)
  refine v_if_ne (tgt := 25) dX6_readWord_20 (by decide) ?_ ?_
  · refine v_aload_n dX6_readWord_25 rfl 2 rfl ?_
    refine v_iload_n dX6_readWord_26 rfl 0 rfl ?_
    refine pf_X6_at kc38 q201 dX6_readWord_27 (fun m3 => ?_)
    refine v_iconst (v := 0) dX6_readWord_30 rfl ?_
    refine v_istore (lv' := [(4, .int 0), (3, .int r1), (2, .int (m0 38 1)), (0, .ref (eAd E 38)), (1, .ref (eAd E 1))]) dX6_readWord_31 (Nat.le_of_ble_eq_true rfl) rfl ?_
    refine v_aload_n dX6_readWord_33 rfl 4 rfl ?_
    refine v_aload_n dX6_readWord_34 rfl 3 rfl ?_
    refine gf_X6_at kc38 q201 dX6_readWord_35 ?_
    refine v_callVi (q := 1) (ci := 4) (C := RX4) (T := TX4) (NN := 2) (As := [.int (m3 38 1)]) (rest := []) (c_X4_byteAt l E m3 (m3 38 1)) kv_X4_byteAt kc1 (by decide) rfl q486 ⟨rfl, rfl⟩ ⟨Nat.le_of_ble_eq_true rfl, Nat.le_of_ble_eq_true rfl⟩ ⟨Nat.zero_le _, Nat.zero_le _⟩ rfl rfl (Nat.le_of_ble_eq_true rfl) dX6_readWord_38 (fun m4 r4 => ?_)
    refine v_bipush (v := 49) dX6_readWord_41 rfl ?_
    refine v_bipush (v := 57) dX6_readWord_43 rfl ?_
    refine v_callSNi (As := [.int r4, .int 49, .int 57]) (rest := []) (c_X8_isWithin l E m4 r4 49 57) ks_X8_isWithin nq498 ⟨rfl, rfl⟩ ⟨Nat.le_of_ble_eq_true rfl, Nat.le_of_ble_eq_true rfl⟩ ⟨Nat.zero_le _, Nat.zero_le _⟩ rfl rfl (Nat.le_of_ble_eq_true rfl) dX6_readWord_45 (fun m5 r5 => ?_)
    refine v_if_eq (tgt := 74) dX6_readWord_48 (by decide) ?_ ?_
    · refine v_sub [3, 2, 1, 0] rfl ?_
      exact w_X6_readWord_74 l E N m5 (m0 38 1) r1 0
    · refine v_aload_n dX6_readWord_51 rfl 4 rfl ?_
      refine v_aload_n dX6_readWord_52 rfl 3 rfl ?_
      refine gf_X6_at kc38 q201 dX6_readWord_53 ?_
      refine v_callVi (q := 1) (ci := 4) (C := RX4) (T := TX4) (NN := 2) (As := [.int (m5 38 1)]) (rest := []) (c_X4_byteAt l E m5 (m5 38 1)) kv_X4_byteAt kc1 (by decide) rfl q486 ⟨rfl, rfl⟩ ⟨Nat.le_of_ble_eq_true rfl, Nat.le_of_ble_eq_true rfl⟩ ⟨Nat.zero_le _, Nat.zero_le _⟩ rfl rfl (Nat.le_of_ble_eq_true rfl) dX6_readWord_56 (fun m6 r6 => ?_)
      refine v_bipush (v := 48) dX6_readWord_59 rfl ?_
      refine v_isub dX6_readWord_61 ?_
      refine v_istore (lv' := [(4, .int (r6 - 48)), (3, .int r1), (2, .int (m0 38 1)), (0, .ref (eAd E 38)), (1, .ref (eAd E 1))]) dX6_readWord_62 (Nat.le_of_ble_eq_true rfl) rfl ?_
      refine v_aload_n dX6_readWord_64 rfl 3 rfl ?_
      refine v_dup dX6_readWord_65 rfl ?_
      refine gf_X6_at kc38 q201 dX6_readWord_66 ?_
      refine v_iconst (v := 1) dX6_readWord_69 rfl ?_
      refine v_iadd dX6_readWord_70 ?_
      refine pf_X6_at kc38 q201 dX6_readWord_71 (fun m7 => ?_)
      refine v_sub [3, 2, 1, 0] rfl ?_
      exact w_X6_readWord_74 l E N m7 (m0 38 1) r1 (r6 - 48)
  · refine v_iconst (v := 0) dX6_readWord_23 rfl ?_
    exact v_zret rfl dX6_readWord_24

def rm_X6_readWords : Room := { frames := 3, cells := 0, slots := 0, locals := 67 }
def f_X6_readWords_2b (N : Nat) (rec_2 : Mem → Int32 → Option (Mem × Int32)) (m0 : Mem) (x2 : Int32) : Option (Mem × Int32) := if 4 ≤ x2 then (some (m0, 0)) else (bm (f_X6_readWord N m0) (fun m1 r1 => if r1 = 0 then (some (m1, 0)) else (bm (f_X4_byteAt m1 (m1 38 1)) (fun m2 r2 => if r2 = 58 then (lm (up m2 38 1 ((m2 38 1) + 1)) (fun m3 => (rec_2 m3 (x2 + 1)))) else (some (m2, 1))))))
def f_X6_readWords_2 (N : Nat) : Nat → Mem → Int32 → Option (Mem × Int32)
  | 0 => fun _ _ => none
  | n + 1 => f_X6_readWords_2b N (f_X6_readWords_2 N n)
theorem w_X6_readWords_2b (l : Launch) (E : EnvT) (N : Nat) (rec_2 : Mem → Int32 → Option (Mem × Int32)) (hrec_2 : ∀ (m0 : Mem) (x2 : Int32), V l E RX6 cX6_readWords 3 (some .boolean) (rm_X6_readWords) 0 0 (Zm E) rvI (rec_2 m0 x2) m0 2 [(0, .ref (eAd E 38)), (1, .ref (eAd E 1)), (2, .int x2)] []) (m0 : Mem) (x2 : Int32) : V l E RX6 cX6_readWords 3 (some .boolean) (rm_X6_readWords) 0 0 (Zm E) rvI (f_X6_readWords_2b N rec_2 m0 x2) m0 2 [(0, .ref (eAd E 38)), (1, .ref (eAd E 1)), (2, .int x2)] [] := by
  unfold f_X6_readWords_2b
  refine v_iload_n dX6_readWords_2 rfl 2 rfl ?_
  refine v_iconst (v := 4) dX6_readWords_3 rfl ?_
  refine v_icmp_ge (tgt := 48) dX6_readWords_4 (by decide) ?_ ?_
  · refine v_iconst (v := 0) dX6_readWords_48 rfl ?_
    exact v_zret rfl dX6_readWords_49
  · refine v_aload_n dX6_readWords_7 rfl 0 rfl ?_
    refine v_aload_n dX6_readWords_8 rfl 1 rfl ?_
    refine v_callVi (q := 38) (ci := 6) (C := RX6) (T := TX6) (NN := 9) (As := [.ref (eAd E 1)]) (rest := []) (c_X6_readWord l E N m0) kv_X6_readWord kc38 (by decide) rfl q507 ⟨rfl, rfl⟩ ⟨Nat.le_of_ble_eq_true rfl, Nat.le_of_ble_eq_true rfl⟩ ⟨Nat.zero_le _, Nat.zero_le _⟩ rfl rfl (Nat.le_of_ble_eq_true rfl) dX6_readWords_9 (fun m1 r1 => ?_)
    refine v_if_ne (tgt := 17) dX6_readWords_12 (by decide) ?_ ?_
    · refine v_aload_n dX6_readWords_17 rfl 1 rfl ?_
      refine v_aload_n dX6_readWords_18 rfl 0 rfl ?_
      refine gf_X6_at kc38 q201 dX6_readWords_19 ?_
      refine v_callVi (q := 1) (ci := 4) (C := RX4) (T := TX4) (NN := 2) (As := [.int (m1 38 1)]) (rest := []) (c_X4_byteAt l E m1 (m1 38 1)) kv_X4_byteAt kc1 (by decide) rfl q486 ⟨rfl, rfl⟩ ⟨Nat.le_of_ble_eq_true rfl, Nat.le_of_ble_eq_true rfl⟩ ⟨Nat.zero_le _, Nat.zero_le _⟩ rfl rfl (Nat.le_of_ble_eq_true rfl) dX6_readWords_22 (fun m2 r2 => ?_)
      refine v_bipush (v := 58) dX6_readWords_25 rfl ?_
      refine v_icmp_eq (tgt := 32) dX6_readWords_27 (by decide) ?_ ?_
      · refine v_aload_n dX6_readWords_32 rfl 0 rfl ?_
        refine v_dup dX6_readWords_33 rfl ?_
        refine gf_X6_at kc38 q201 dX6_readWords_34 ?_
        refine v_iconst (v := 1) dX6_readWords_37 rfl ?_
        refine v_iadd dX6_readWords_38 ?_
        refine pf_X6_at kc38 q201 dX6_readWords_39 (fun m3 => ?_)
        refine v_iinc (v := (x2 + 1)) (lv' := [(2, .int (x2 + 1)), (0, .ref (eAd E 38)), (1, .ref (eAd E 1))]) dX6_readWords_42 2 rfl rfl (Nat.le_of_ble_eq_true rfl) rfl ?_
        refine v_goto (tgt := 2) dX6_readWords_45 (by decide) ?_
        refine v_sub [1, 2, 0] rfl ?_
        exact hrec_2 m3 (x2 + 1)
      · refine v_iconst (v := 1) dX6_readWords_30 rfl ?_
        exact v_zret rfl dX6_readWords_31
    · refine v_iconst (v := 0) dX6_readWords_15 rfl ?_
      exact v_zret rfl dX6_readWords_16
theorem w_X6_readWords_2 (l : Launch) (E : EnvT) (N : Nat) : ∀ (n : Nat) (m0 : Mem) (x2 : Int32), V l E RX6 cX6_readWords 3 (some .boolean) (rm_X6_readWords) 0 0 (Zm E) rvI (f_X6_readWords_2 N n m0 x2) m0 2 [(0, .ref (eAd E 38)), (1, .ref (eAd E 1)), (2, .int x2)] [] := by
  intro n
  induction n with
  | zero => intros; exact v_none
  | succ n ih => exact w_X6_readWords_2b l E N _ ih
def f_X6_readWords (N : Nat) (m0 : Mem) : Option (Mem × Int32) := (f_X6_readWords_2 N N m0 0)
theorem c_X6_readWords (l : Launch) (E : EnvT) (N : Nat) (m0 : Mem) : CT l E yX6_readWords cX6_readWords 3 (some .boolean) (rm_X6_readWords) rvI (f_X6_readWords N m0) [.ref (eAd E 38), .ref (eAd E 1)] m0 := by
  refine CT.ofV (own := RX6) (by decide) rfl (Nat.le_of_ble_eq_true rfl) ?_
  show V l E RX6 cX6_readWords 3 (some .boolean) (rm_X6_readWords) 0 0 (Zm E) rvI _ m0 0 [(0, .ref (eAd E 38)), (1, .ref (eAd E 1))] []
  unfold f_X6_readWords
  refine v_iconst (v := 0) dX6_readWords_0 rfl ?_
  refine v_istore_n (lv' := [(2, .int 0), (0, .ref (eAd E 38)), (1, .ref (eAd E 1))]) dX6_readWords_1 rfl (Nat.le_of_ble_eq_true rfl) rfl ?_
  refine v_sub [1, 2, 0] rfl ?_
  exact w_X6_readWords_2 l E N N m0 0

def rm_X6_readWordsHeader : Room := { frames := 4, cells := 0, slots := 0, locals := 89 }
def f_X6_readWordsHeader_49 (N : Nat) (m0 : Mem) (s1 : Int32) : Option (Mem × Int32) := lm (up m0 39 3 s1) (fun m1 => bm (f_X6_readWords N m1) (fun m2 r2 => gd (isB r2) (some (m2, r2))))
theorem w_X6_readWordsHeader_49 (l : Launch) (E : EnvT) (N : Nat) (m0 : Mem) (s1 : Int32) : V l E RX6 cX6_readWordsHeader 3 (some .boolean) (rm_X6_readWordsHeader) 0 0 (Zm E) rvI (f_X6_readWordsHeader_49 N m0 s1) m0 49 [(0, .ref (eAd E 38)), (1, .ref (eAd E 1))] [.int s1, .ref (eAd E 39)] := by
  unfold f_X6_readWordsHeader_49
  refine pf_X7_count kc39 q188 dX6_readWordsHeader_49 (fun m1 => ?_)
  refine v_aload_n dX6_readWordsHeader_52 rfl 0 rfl ?_
  refine v_aload_n dX6_readWordsHeader_53 rfl 1 rfl ?_
  refine v_callVi (q := 38) (ci := 6) (C := RX6) (T := TX6) (NN := 9) (As := [.ref (eAd E 1)]) (rest := []) (c_X6_readWords l E N m1) kv_X6_readWords kc38 (by decide) rfl q503 ⟨rfl, rfl⟩ ⟨Nat.le_of_ble_eq_true rfl, Nat.le_of_ble_eq_true rfl⟩ ⟨Nat.zero_le _, Nat.zero_le _⟩ rfl rfl (Nat.le_of_ble_eq_true rfl) dX6_readWordsHeader_54 (fun m2 r2 => ?_)
  refine v_gd (fun g57 => ?_)
  exact v_zret g57 dX6_readWordsHeader_57
def f_X6_readWordsHeader_33 (N : Nat) (m0 : Mem) (x2 : Int32) : Option (Mem × Int32) := if x2 = 0 then (f_X6_readWordsHeader_49 N m0 (m0 38 2)) else (f_X6_readWordsHeader_49 N m0 0)
theorem w_X6_readWordsHeader_33 (l : Launch) (E : EnvT) (N : Nat) (m0 : Mem) (x2 : Int32) : V l E RX6 cX6_readWordsHeader 3 (some .boolean) (rm_X6_readWordsHeader) 0 0 (Zm E) rvI (f_X6_readWordsHeader_33 N m0 x2) m0 33 [(0, .ref (eAd E 38)), (1, .ref (eAd E 1)), (2, .int x2)] [] := by
  unfold f_X6_readWordsHeader_33
  refine v_aload_n dX6_readWordsHeader_33 rfl 0 rfl ?_
  refine gf_X6_words kc38 q199 dX6_readWordsHeader_34 ?_
  refine v_iload_n dX6_readWordsHeader_37 rfl 2 rfl ?_
  refine v_if_eq (tgt := 45) dX6_readWordsHeader_38 (by decide) ?_ ?_
  · refine v_aload_n dX6_readWordsHeader_45 rfl 0 rfl ?_
    refine gf_X6_branchCount kc38 q202 dX6_readWordsHeader_46 ?_
    refine v_sub [0, 1] rfl ?_
    exact w_X6_readWordsHeader_49 l E N m0 (m0 38 2)
  · refine v_iconst (v := 0) dX6_readWordsHeader_41 rfl ?_
    refine v_goto (tgt := 49) dX6_readWordsHeader_42 (by decide) ?_
    refine v_sub [0, 1] rfl ?_
    exact w_X6_readWordsHeader_49 l E N m0 0
def f_X6_readWordsHeader_18 (N : Nat) (m0 : Mem) (s0 : Int32) : Option (Mem × Int32) := if s0 = 0 then (f_X6_readWordsHeader_33 N m0 s0) else (lm (up m0 38 1 ((m0 38 1) + 1)) (fun m1 => (f_X6_readWordsHeader_33 N m1 s0)))
theorem w_X6_readWordsHeader_18 (l : Launch) (E : EnvT) (N : Nat) (m0 : Mem) (s0 : Int32) : V l E RX6 cX6_readWordsHeader 3 (some .boolean) (rm_X6_readWordsHeader) 0 0 (Zm E) rvI (f_X6_readWordsHeader_18 N m0 s0) m0 18 [(0, .ref (eAd E 38)), (1, .ref (eAd E 1))] [.int s0] := by
  unfold f_X6_readWordsHeader_18
  refine v_istore_n (lv' := [(2, .int s0), (0, .ref (eAd E 38)), (1, .ref (eAd E 1))]) dX6_readWordsHeader_18 rfl (Nat.le_of_ble_eq_true rfl) rfl ?_
  refine v_iload_n dX6_readWordsHeader_19 rfl 0 rfl ?_
  refine v_if_eq (tgt := 33) dX6_readWordsHeader_20 (by decide) ?_ ?_
  · refine v_sub [1, 2, 0] rfl ?_
    exact w_X6_readWordsHeader_33 l E N m0 s0
  · refine v_aload_n dX6_readWordsHeader_23 rfl 1 rfl ?_
    refine v_dup dX6_readWordsHeader_24 rfl ?_
    refine gf_X6_at kc38 q201 dX6_readWordsHeader_25 ?_
    refine v_iconst (v := 1) dX6_readWordsHeader_28 rfl ?_
    refine v_iadd dX6_readWordsHeader_29 ?_
    refine pf_X6_at kc38 q201 dX6_readWordsHeader_30 (fun m1 => ?_)
    refine v_sub [1, 2, 0] rfl ?_
    exact w_X6_readWordsHeader_33 l E N m1 s0
def f_X6_readWordsHeader (N : Nat) (m0 : Mem) : Option (Mem × Int32) := bm (f_X4_byteAt m0 (m0 38 1)) (fun m1 r1 => if r1 = 58 then (f_X6_readWordsHeader_18 N m1 1) else (f_X6_readWordsHeader_18 N m1 0))
theorem c_X6_readWordsHeader (l : Launch) (E : EnvT) (N : Nat) (m0 : Mem) : CT l E yX6_readWordsHeader cX6_readWordsHeader 3 (some .boolean) (rm_X6_readWordsHeader) rvI (f_X6_readWordsHeader N m0) [.ref (eAd E 38), .ref (eAd E 1)] m0 := by
  refine CT.ofV (own := RX6) (by decide) rfl (Nat.le_of_ble_eq_true rfl) ?_
  show V l E RX6 cX6_readWordsHeader 3 (some .boolean) (rm_X6_readWordsHeader) 0 0 (Zm E) rvI _ m0 0 [(0, .ref (eAd E 38)), (1, .ref (eAd E 1))] []
  unfold f_X6_readWordsHeader
  refine v_aload_n dX6_readWordsHeader_0 rfl 1 rfl ?_
  refine v_aload_n dX6_readWordsHeader_1 rfl 0 rfl ?_
  refine gf_X6_at kc38 q201 dX6_readWordsHeader_2 ?_
  refine v_callVi (q := 1) (ci := 4) (C := RX4) (T := TX4) (NN := 2) (As := [.int (m0 38 1)]) (rest := []) (c_X4_byteAt l E m0 (m0 38 1)) kv_X4_byteAt kc1 (by decide) rfl q486 ⟨rfl, rfl⟩ ⟨Nat.le_of_ble_eq_true rfl, Nat.le_of_ble_eq_true rfl⟩ ⟨Nat.zero_le _, Nat.zero_le _⟩ rfl rfl (Nat.le_of_ble_eq_true rfl) dX6_readWordsHeader_5 (fun m1 r1 => ?_)
  refine v_bipush (v := 58) dX6_readWordsHeader_8 rfl ?_
  refine v_icmp_ne (tgt := 17) dX6_readWordsHeader_10 (by decide) ?_ ?_
  · refine v_iconst (v := 0) dX6_readWordsHeader_17 rfl ?_
    exact w_X6_readWordsHeader_18 l E N m1 0
  · refine v_iconst (v := 1) dX6_readWordsHeader_13 rfl ?_
    refine v_goto (tgt := 18) dX6_readWordsHeader_14 (by decide) ?_
    exact w_X6_readWordsHeader_18 l E N m1 1

def rm_X6_isUnitEnd : Room := { frames := 1, cells := 0, slots := 0, locals := 21 }
def f_X6_isUnitEnd_20 (m0 : Mem) : Option (Mem × Int32) := some (m0, 1)
theorem w_X6_isUnitEnd_20 (l : Launch) (E : EnvT) (m0 : Mem) : V l E RX6 cX6_isUnitEnd 3 (some .boolean) (rm_X6_isUnitEnd) 0 0 (Zm E) rvI (f_X6_isUnitEnd_20 m0) m0 20 [] [] := by
  unfold f_X6_isUnitEnd_20
  refine v_iconst (v := 1) dX6_isUnitEnd_20 rfl ?_
  refine v_goto (tgt := 25) dX6_isUnitEnd_21 (by decide) ?_
  exact v_zret rfl dX6_isUnitEnd_25
def f_X6_isUnitEnd (m0 : Mem) : Option (Mem × Int32) := bm (f_X4_byteAt m0 (m0 38 1)) (fun m1 r1 => if r1 = 59 then (f_X6_isUnitEnd_20 m1) else (if r1 = (-1) then (f_X6_isUnitEnd_20 m1) else (some (m1, 0))))
theorem c_X6_isUnitEnd (l : Launch) (E : EnvT) (m0 : Mem) : CT l E yX6_isUnitEnd cX6_isUnitEnd 3 (some .boolean) (rm_X6_isUnitEnd) rvI (f_X6_isUnitEnd m0) [.ref (eAd E 38), .ref (eAd E 1)] m0 := by
  refine CT.ofV (own := RX6) (by decide) rfl (Nat.le_of_ble_eq_true rfl) ?_
  show V l E RX6 cX6_isUnitEnd 3 (some .boolean) (rm_X6_isUnitEnd) 0 0 (Zm E) rvI _ m0 0 [(0, .ref (eAd E 38)), (1, .ref (eAd E 1))] []
  unfold f_X6_isUnitEnd
  refine v_aload_n dX6_isUnitEnd_0 rfl 1 rfl ?_
  refine v_aload_n dX6_isUnitEnd_1 rfl 0 rfl ?_
  refine gf_X6_at kc38 q201 dX6_isUnitEnd_2 ?_
  refine v_callVi (q := 1) (ci := 4) (C := RX4) (T := TX4) (NN := 2) (As := [.int (m0 38 1)]) (rest := []) (c_X4_byteAt l E m0 (m0 38 1)) kv_X4_byteAt kc1 (by decide) rfl q486 ⟨rfl, rfl⟩ ⟨Nat.le_of_ble_eq_true rfl, Nat.le_of_ble_eq_true rfl⟩ ⟨Nat.zero_le _, Nat.zero_le _⟩ rfl rfl (Nat.le_of_ble_eq_true rfl) dX6_isUnitEnd_5 (fun m1 r1 => ?_)
  refine v_istore_n (lv' := [(2, .int r1), (0, .ref (eAd E 38)), (1, .ref (eAd E 1))]) dX6_isUnitEnd_8 rfl (Nat.le_of_ble_eq_true rfl) rfl ?_
  refine v_iload_n dX6_isUnitEnd_9 rfl 0 rfl ?_
  refine v_bipush (v := 59) dX6_isUnitEnd_10 rfl ?_
  refine v_icmp_eq (tgt := 20) dX6_isUnitEnd_12 (by decide) ?_ ?_
  · refine v_sub [] rfl ?_
    exact w_X6_isUnitEnd_20 l E m1
  · refine v_iload_n dX6_isUnitEnd_15 rfl 0 rfl ?_
    refine v_iconst (v := (-1)) dX6_isUnitEnd_16 rfl ?_
    refine v_icmp_ne (tgt := 24) dX6_isUnitEnd_17 (by decide) ?_ ?_
    · refine v_iconst (v := 0) dX6_isUnitEnd_24 rfl ?_
      exact v_zret rfl dX6_isUnitEnd_25
    · refine v_sub [] rfl ?_
      exact w_X6_isUnitEnd_20 l E m1

def rm_X4_spells : Room := { frames := 8, cells := 0, slots := 0, locals := 400 }
def f_X4_spells_15b (N : Nat) (k3 : Nat) (rec_15 : Mem → Int32 → Int32 → Option (Mem × Int32)) (m0 : Mem) (x1 : Int32) (x4 : Int32) : Option (Mem × Int32) := if (strLen k3) ≤ x4 then (some (m0, 1)) else (bm (f_X4_capitalAt m0 (x1 + x4)) (fun m1 r1 => gd (inR x4 (strN.getD k3 0)) (if r1 = (strCh k3 (ix x4)) then (rec_15 m1 x1 (x4 + 1)) else (some (m1, 0)))))
def f_X4_spells_15 (N : Nat) (k3 : Nat) : Nat → Mem → Int32 → Int32 → Option (Mem × Int32)
  | 0 => fun _ _ _ => none
  | n + 1 => f_X4_spells_15b N k3 (f_X4_spells_15 N k3 n)
theorem w_X4_spells_15b (l : Launch) (E : EnvT) (N : Nat) (k3 : Nat) (hk3 : k3 < 9) (rec_15 : Mem → Int32 → Int32 → Option (Mem × Int32)) (hrec_15 : ∀ (m0 : Mem) (x1 : Int32) (x4 : Int32), V l E RX4 cX4_spells 5 (some .boolean) (rm_X4_spells) 0 0 (Zm E) rvI (rec_15 m0 x1 x4) m0 15 [(0, .ref (eAd E 1)), (1, .int x1), (3, .ref (eK E k3)), (4, .int x4)] []) (m0 : Mem) (x1 : Int32) (x4 : Int32) : V l E RX4 cX4_spells 5 (some .boolean) (rm_X4_spells) 0 0 (Zm E) rvI (f_X4_spells_15b N k3 rec_15 m0 x1 x4) m0 15 [(0, .ref (eAd E 1)), (1, .int x1), (3, .ref (eK E k3)), (4, .int x4)] [] := by
  unfold f_X4_spells_15b
  refine v_iload dX4_spells_15 3 rfl ?_
  refine v_aload_n dX4_spells_17 rfl 2 rfl ?_
  refine v_slen k3 hk3 q537 ⟨Nat.le_of_ble_eq_true rfl, Nat.le_of_ble_eq_true rfl⟩ ⟨Nat.zero_le _, Nat.zero_le _⟩ (Nat.le_of_ble_eq_true rfl) dX4_spells_18 ?_
  refine v_icmp_ge (tgt := 49) dX4_spells_21 (by decide) ?_ ?_
  · refine v_iconst (v := 1) dX4_spells_49 rfl ?_
    exact v_zret rfl dX4_spells_50
  · refine v_aload_n dX4_spells_24 rfl 0 rfl ?_
    refine v_iload_n dX4_spells_25 rfl 1 rfl ?_
    refine v_iload dX4_spells_26 3 rfl ?_
    refine v_iadd dX4_spells_28 ?_
    refine v_callVi (q := 1) (ci := 4) (C := RX4) (T := TX4) (NN := 2) (As := [.int (x1 + x4)]) (rest := []) (c_X4_capitalAt l E m0 (x1 + x4)) kv_X4_capitalAt kc1 (by decide) rfl q547 ⟨rfl, rfl⟩ ⟨Nat.le_of_ble_eq_true rfl, Nat.le_of_ble_eq_true rfl⟩ ⟨Nat.zero_le _, Nat.zero_le _⟩ rfl rfl (Nat.le_of_ble_eq_true rfl) dX4_spells_29 (fun m1 r1 => ?_)
    refine v_aload_n dX4_spells_32 rfl 2 rfl ?_
    refine v_iload dX4_spells_33 3 rfl ?_
    refine v_gd (fun g35 => ?_)
    refine v_schr k3 hk3 q548 ⟨Nat.le_of_ble_eq_true rfl, Nat.le_of_ble_eq_true rfl⟩ ⟨Nat.zero_le _, Nat.zero_le _⟩ (Nat.le_of_ble_eq_true rfl) g35 dX4_spells_35 ?_
    refine v_icmp_eq (tgt := 43) dX4_spells_38 (by decide) ?_ ?_
    · refine v_iinc (v := (x4 + 1)) (lv' := [(4, .int (x4 + 1)), (0, .ref (eAd E 1)), (1, .int x1), (3, .ref (eK E k3))]) dX4_spells_43 3 rfl rfl (Nat.le_of_ble_eq_true rfl) rfl ?_
      refine v_goto (tgt := 15) dX4_spells_46 (by decide) ?_
      refine v_sub [1, 2, 3, 0] rfl ?_
      exact hrec_15 m1 x1 (x4 + 1)
    · refine v_iconst (v := 0) dX4_spells_41 rfl ?_
      exact v_zret rfl dX4_spells_42
theorem w_X4_spells_15 (l : Launch) (E : EnvT) (N : Nat) (k3 : Nat) (hk3 : k3 < 9) : ∀ (n : Nat) (m0 : Mem) (x1 : Int32) (x4 : Int32), V l E RX4 cX4_spells 5 (some .boolean) (rm_X4_spells) 0 0 (Zm E) rvI (f_X4_spells_15 N k3 n m0 x1 x4) m0 15 [(0, .ref (eAd E 1)), (1, .int x1), (3, .ref (eK E k3)), (4, .int x4)] [] := by
  intro n
  induction n with
  | zero => intros; exact v_none
  | succ n ih => exact w_X4_spells_15b l E N k3 hk3 _ ih
def f_X4_spells (N : Nat) (k3 : Nat) (m0 : Mem) (x1 : Int32) (x2 : Int32) : Option (Mem × Int32) := if (x2 - x1) = (strLen k3) then (f_X4_spells_15 N k3 N m0 x1 0) else (some (m0, 0))
theorem c_X4_spells (l : Launch) (E : EnvT) (N : Nat) (k3 : Nat) (hk3 : k3 < 9) (m0 : Mem) (x1 : Int32) (x2 : Int32) : CT l E yX4_spells cX4_spells 5 (some .boolean) (rm_X4_spells) rvI (f_X4_spells N k3 m0 x1 x2) [.ref (eAd E 1), .int x1, .int x2, .ref (eK E k3)] m0 := by
  refine CT.ofV (own := RX4) (by decide) rfl (Nat.le_of_ble_eq_true rfl) ?_
  show V l E RX4 cX4_spells 5 (some .boolean) (rm_X4_spells) 0 0 (Zm E) rvI _ m0 0 [(0, .ref (eAd E 1)), (1, .int x1), (2, .int x2), (3, .ref (eK E k3))] []
  unfold f_X4_spells
  refine v_iload_n dX4_spells_0 rfl 2 rfl ?_
  refine v_iload_n dX4_spells_1 rfl 1 rfl ?_
  refine v_isub dX4_spells_2 ?_
  refine v_aload_n dX4_spells_3 rfl 3 rfl ?_
  refine v_slen k3 hk3 q537 ⟨Nat.le_of_ble_eq_true rfl, Nat.le_of_ble_eq_true rfl⟩ ⟨Nat.zero_le _, Nat.zero_le _⟩ (Nat.le_of_ble_eq_true rfl) dX4_spells_4 ?_
  refine v_icmp_eq (tgt := 12) dX4_spells_7 (by decide) ?_ ?_
  · refine v_iconst (v := 0) dX4_spells_12 rfl ?_
    refine v_istore (lv' := [(4, .int 0), (0, .ref (eAd E 1)), (1, .int x1), (2, .int x2), (3, .ref (eK E k3))]) dX4_spells_13 (Nat.le_of_ble_eq_true rfl) rfl ?_
    refine v_sub [1, 2, 4, 0] rfl ?_
    exact w_X4_spells_15 l E N k3 hk3 N m0 x1 0
  · refine v_iconst (v := 0) dX4_spells_10 rfl ?_
    exact v_zret rfl dX4_spells_11

def rm_X6_readSwitch : Room := { frames := 9, cells := 0, slots := 0, locals := 424 }
def f_X6_readSwitch_57 (N : Nat) (m0 : Mem) : Option (Mem × Int32) := some (m0, 1)
theorem w_X6_readSwitch_57 (l : Launch) (E : EnvT) (N : Nat) (m0 : Mem) : V l E RX6 cX6_readSwitch 4 (some .boolean) (rm_X6_readSwitch) 0 0 (Zm E) rvI (f_X6_readSwitch_57 N m0) m0 57 [] [] := by
  unfold f_X6_readSwitch_57
  refine v_iconst (v := 1) dX6_readSwitch_57 rfl ?_
  refine v_goto (tgt := 62) dX6_readSwitch_58 (by decide) ?_
  exact v_zret rfl dX6_readSwitch_62
def f_X6_readSwitch_36 (N : Nat) (m0 : Mem) (x2 : Int32) (x3 : Int32) (s1 : Int32) : Option (Mem × Int32) := lm (up m0 38 8 s1) (fun m1 => if x3 = 0 then (bm (f_X4_spells N 8 m1 x2 (m1 38 1)) (fun m2 r2 => if r2 = 0 then (some (m2, 0)) else (f_X6_readSwitch_57 N m2))) else (f_X6_readSwitch_57 N m1))
theorem w_X6_readSwitch_36 (l : Launch) (E : EnvT) (N : Nat) (m0 : Mem) (x2 : Int32) (x3 : Int32) (s1 : Int32) : V l E RX6 cX6_readSwitch 4 (some .boolean) (rm_X6_readSwitch) 0 0 (Zm E) rvI (f_X6_readSwitch_36 N m0 x2 x3 s1) m0 36 [(0, .ref (eAd E 38)), (1, .ref (eAd E 1)), (2, .int x2), (3, .int x3)] [.int s1, .ref (eAd E 38)] := by
  unfold f_X6_readSwitch_36
  refine pf_X6_number kc38 q210 dX6_readSwitch_36 (fun m1 => ?_)
  refine v_iload_n dX6_readSwitch_39 rfl 3 rfl ?_
  refine v_if_ne (tgt := 57) dX6_readSwitch_40 (by decide) ?_ ?_
  · refine v_sub [] rfl ?_
    exact w_X6_readSwitch_57 l E N m1
  · refine v_aload_n dX6_readSwitch_43 rfl 1 rfl ?_
    refine v_iload_n dX6_readSwitch_44 rfl 2 rfl ?_
    refine v_aload_n dX6_readSwitch_45 rfl 0 rfl ?_
    refine gf_X6_at kc38 q201 dX6_readSwitch_46 ?_
    refine v_ldcS (i := 8) (by decide) rfl rfl rfl dX6_readSwitch_49 ?_
    refine v_callVi (q := 1) (ci := 4) (C := RX4) (T := TX4) (NN := 2) (As := [.int x2, .int (m1 38 1), .ref (eK E 8)]) (rest := []) (c_X4_spells l E N 8 (by decide) m1 x2 (m1 38 1)) kv_X4_spells kc1 (by decide) rfl q533 ⟨rfl, rfl⟩ ⟨Nat.le_of_ble_eq_true rfl, Nat.le_of_ble_eq_true rfl⟩ ⟨Nat.zero_le _, Nat.zero_le _⟩ rfl rfl (Nat.le_of_ble_eq_true rfl) dX6_readSwitch_51 (fun m2 r2 => ?_)
    refine v_if_eq (tgt := 61) dX6_readSwitch_54 (by decide) ?_ ?_
    · refine v_iconst (v := 0) dX6_readSwitch_61 rfl ?_
      exact v_zret rfl dX6_readSwitch_62
    · refine v_sub [] rfl ?_
      exact w_X6_readSwitch_57 l E N m2
def f_X6_readSwitch (N : Nat) (m0 : Mem) : Option (Mem × Int32) := bm (f_X4_pastLetters N m0 (m0 38 1)) (fun m1 r1 => lm (up m1 38 1 r1) (fun m2 => bm (f_X4_spells N 7 m2 (m0 38 1) (m2 38 1)) (fun m3 r3 => if r3 = 0 then (f_X6_readSwitch_36 N m3 (m0 38 1) r3 0) else (f_X6_readSwitch_36 N m3 (m0 38 1) r3 1))))
theorem c_X6_readSwitch (l : Launch) (E : EnvT) (N : Nat) (m0 : Mem) : CT l E yX6_readSwitch cX6_readSwitch 4 (some .boolean) (rm_X6_readSwitch) rvI (f_X6_readSwitch N m0) [.ref (eAd E 38), .ref (eAd E 1)] m0 := by
  refine CT.ofV (own := RX6) (by decide) rfl (Nat.le_of_ble_eq_true rfl) ?_
  show V l E RX6 cX6_readSwitch 4 (some .boolean) (rm_X6_readSwitch) 0 0 (Zm E) rvI _ m0 0 [(0, .ref (eAd E 38)), (1, .ref (eAd E 1))] []
  unfold f_X6_readSwitch
  refine v_aload_n dX6_readSwitch_0 rfl 0 rfl ?_
  refine gf_X6_at kc38 q201 dX6_readSwitch_1 ?_
  refine v_istore_n (lv' := [(2, .int (m0 38 1)), (0, .ref (eAd E 38)), (1, .ref (eAd E 1))]) dX6_readSwitch_4 rfl (Nat.le_of_ble_eq_true rfl) rfl ?_
  refine v_aload_n dX6_readSwitch_5 rfl 1 rfl ?_
  refine v_aload_n dX6_readSwitch_6 rfl 2 rfl ?_
  refine v_iload_n dX6_readSwitch_7 rfl 0 rfl ?_
  refine v_callVi (q := 1) (ci := 4) (C := RX4) (T := TX4) (NN := 2) (As := [.int (m0 38 1)]) (rest := [.ref (eAd E 38)]) (c_X4_pastLetters l E N m0 (m0 38 1)) kv_X4_pastLetters kc1 (by decide) rfl q491 ⟨rfl, rfl⟩ ⟨Nat.le_of_ble_eq_true rfl, Nat.le_of_ble_eq_true rfl⟩ ⟨Nat.zero_le _, Nat.zero_le _⟩ rfl rfl (Nat.le_of_ble_eq_true rfl) dX6_readSwitch_8 (fun m1 r1 => ?_)
  refine pf_X6_at kc38 q201 dX6_readSwitch_11 (fun m2 => ?_)
  refine v_aload_n dX6_readSwitch_14 rfl 2 rfl ?_
  refine v_iload_n dX6_readSwitch_15 rfl 0 rfl ?_
  refine v_aload_n dX6_readSwitch_16 rfl 1 rfl ?_
  refine gf_X6_at kc38 q201 dX6_readSwitch_17 ?_
  refine v_ldcS (i := 7) (by decide) rfl rfl rfl dX6_readSwitch_20 ?_
  refine v_callVi (q := 1) (ci := 4) (C := RX4) (T := TX4) (NN := 2) (As := [.int (m0 38 1), .int (m2 38 1), .ref (eK E 7)]) (rest := []) (c_X4_spells l E N 7 (by decide) m2 (m0 38 1) (m2 38 1)) kv_X4_spells kc1 (by decide) rfl q533 ⟨rfl, rfl⟩ ⟨Nat.le_of_ble_eq_true rfl, Nat.le_of_ble_eq_true rfl⟩ ⟨Nat.zero_le _, Nat.zero_le _⟩ rfl rfl (Nat.le_of_ble_eq_true rfl) dX6_readSwitch_22 (fun m3 r3 => ?_)
  refine v_istore_n (lv' := [(3, .int r3), (2, .int (m0 38 1)), (0, .ref (eAd E 38)), (1, .ref (eAd E 1))]) dX6_readSwitch_25 rfl (Nat.le_of_ble_eq_true rfl) rfl ?_
  refine v_aload_n dX6_readSwitch_26 rfl 2 rfl ?_
  refine v_iload_n dX6_readSwitch_27 rfl 0 rfl ?_
  refine v_if_eq (tgt := 35) dX6_readSwitch_28 (by decide) ?_ ?_
  · refine v_iconst (v := 0) dX6_readSwitch_35 rfl ?_
    refine v_sub [2, 3, 1, 0] rfl ?_
    exact w_X6_readSwitch_36 l E N m3 (m0 38 1) r3 0
  · refine v_iconst (v := 1) dX6_readSwitch_31 rfl ?_
    refine v_goto (tgt := 36) dX6_readSwitch_32 (by decide) ?_
    refine v_sub [2, 3, 1, 0] rfl ?_
    exact w_X6_readSwitch_36 l E N m3 (m0 38 1) r3 1

def rm_X8_isFigure : Room := { frames := 0, cells := 0, slots := 0, locals := 0 }
def f_X8_isFigure (m0 : Mem) (x0 : Int32) : Option (Mem × Int32) := if x0 < 48 then (some (m0, 0)) else (if 57 < x0 then (some (m0, 0)) else (some (m0, 1)))
theorem c_X8_isFigure (l : Launch) (E : EnvT) (m0 : Mem) (x0 : Int32) : CT l E yX8_isFigure cX8_isFigure 1 (some .boolean) (rm_X8_isFigure) rvI (f_X8_isFigure m0 x0) [.int x0] m0 := by
  refine CT.ofV (own := RX8) (by decide) rfl (Nat.le_of_ble_eq_true rfl) ?_
  show V l E RX8 cX8_isFigure 1 (some .boolean) (rm_X8_isFigure) 0 0 (Zm E) rvI _ m0 0 [(0, .int x0)] []
  unfold f_X8_isFigure
  refine v_iload_n dX8_isFigure_0 rfl 0 rfl ?_
  refine v_bipush (v := 48) dX8_isFigure_1 rfl ?_
  refine v_icmp_lt (tgt := 16) dX8_isFigure_3 (by decide) ?_ ?_
  · refine v_iconst (v := 0) dX8_isFigure_16 rfl ?_
    exact v_zret rfl dX8_isFigure_17
  · refine v_iload_n dX8_isFigure_6 rfl 0 rfl ?_
    refine v_bipush (v := 57) dX8_isFigure_7 rfl ?_
    refine v_icmp_gt (tgt := 16) dX8_isFigure_9 (by decide) ?_ ?_
    · refine v_iconst (v := 0) dX8_isFigure_16 rfl ?_
      exact v_zret rfl dX8_isFigure_17
    · refine v_iconst (v := 1) dX8_isFigure_12 rfl ?_
      refine v_goto (tgt := 17) dX8_isFigure_13 (by decide) ?_
      exact v_zret rfl dX8_isFigure_17

def rm_X6_readNumber : Room := { frames := 1, cells := 0, slots := 0, locals := 22 }
def f_X6_readNumber_132 (N : Nat) (m0 : Mem) (x4 : Int32) (s1 : Int32) : Option (Mem × Int32) := lm (up m0 38 8 s1) (fun m1 => if x4 ≤ 0 then (some (m1, 0)) else (some (m1, 1)))
theorem w_X6_readNumber_132 (l : Launch) (E : EnvT) (N : Nat) (m0 : Mem) (x4 : Int32) (s1 : Int32) : V l E RX6 cX6_readNumber 5 (some .boolean) (rm_X6_readNumber) 0 0 (Zm E) rvI (f_X6_readNumber_132 N m0 x4 s1) m0 132 [(4, .int x4)] [.int s1, .ref (eAd E 38)] := by
  unfold f_X6_readNumber_132
  refine pf_X6_number kc38 q210 dX6_readNumber_132 (fun m1 => ?_)
  refine v_iload dX6_readNumber_135 0 rfl ?_
  refine v_if_le (tgt := 144) dX6_readNumber_137 (by decide) ?_ ?_
  · refine v_iconst (v := 0) dX6_readNumber_144 rfl ?_
    exact v_zret rfl dX6_readNumber_145
  · refine v_iconst (v := 1) dX6_readNumber_140 rfl ?_
    refine v_goto (tgt := 145) dX6_readNumber_141 (by decide) ?_
    exact v_zret rfl dX6_readNumber_145
def f_X6_readNumber_119 (N : Nat) (m0 : Mem) (x2 : Int32) (x3 : Int32) (x4 : Int32) : Option (Mem × Int32) := if x2 = 45 then (f_X6_readNumber_132 N m0 x4 (-x3)) else (f_X6_readNumber_132 N m0 x4 x3)
theorem w_X6_readNumber_119 (l : Launch) (E : EnvT) (N : Nat) (m0 : Mem) (x2 : Int32) (x3 : Int32) (x4 : Int32) : V l E RX6 cX6_readNumber 5 (some .boolean) (rm_X6_readNumber) 0 0 (Zm E) rvI (f_X6_readNumber_119 N m0 x2 x3 x4) m0 119 [(0, .ref (eAd E 38)), (2, .int x2), (3, .int x3), (4, .int x4)] [] := by
  unfold f_X6_readNumber_119
  refine v_aload_n dX6_readNumber_119 rfl 0 rfl ?_
  refine v_iload_n dX6_readNumber_120 rfl 1 rfl ?_
  refine v_bipush (v := 45) dX6_readNumber_121 rfl ?_
  refine v_icmp_ne (tgt := 131) dX6_readNumber_123 (by decide) ?_ ?_
  · refine v_iload_n dX6_readNumber_131 rfl 2 rfl ?_
    refine v_sub [3] rfl ?_
    exact w_X6_readNumber_132 l E N m0 x4 x3
  · refine v_iload_n dX6_readNumber_126 rfl 2 rfl ?_
    refine v_ineg dX6_readNumber_127 ?_
    refine v_goto (tgt := 132) dX6_readNumber_128 (by decide) ?_
    refine v_sub [3] rfl ?_
    exact w_X6_readNumber_132 l E N m0 x4 (-x3)
def f_X6_readNumber_90 (N : Nat) (m0 : Mem) (x2 : Int32) (x3 : Int32) (x4 : Int32) : Option (Mem × Int32) := bm (f_X4_capitalAt m0 (m0 38 1)) (fun m1 r1 => if r1 = 75 then (lm (up m1 38 1 ((m1 38 1) + 1)) (fun m2 => (f_X6_readNumber_119 N m2 x2 (1000 * x3) x4))) else (f_X6_readNumber_119 N m1 x2 x3 x4))
theorem w_X6_readNumber_90 (l : Launch) (E : EnvT) (N : Nat) (m0 : Mem) (x2 : Int32) (x3 : Int32) (x4 : Int32) : V l E RX6 cX6_readNumber 5 (some .boolean) (rm_X6_readNumber) 0 0 (Zm E) rvI (f_X6_readNumber_90 N m0 x2 x3 x4) m0 90 [(0, .ref (eAd E 38)), (1, .ref (eAd E 1)), (2, .int x2), (3, .int x3), (4, .int x4)] [] := by
  unfold f_X6_readNumber_90
  refine v_aload_n dX6_readNumber_90 rfl 1 rfl ?_
  refine v_aload_n dX6_readNumber_91 rfl 0 rfl ?_
  refine gf_X6_at kc38 q201 dX6_readNumber_92 ?_
  refine v_callVi (q := 1) (ci := 4) (C := RX4) (T := TX4) (NN := 2) (As := [.int (m0 38 1)]) (rest := []) (c_X4_capitalAt l E m0 (m0 38 1)) kv_X4_capitalAt kc1 (by decide) rfl q594 ⟨rfl, rfl⟩ ⟨Nat.le_of_ble_eq_true rfl, Nat.le_of_ble_eq_true rfl⟩ ⟨Nat.zero_le _, Nat.zero_le _⟩ rfl rfl (Nat.le_of_ble_eq_true rfl) dX6_readNumber_95 (fun m1 r1 => ?_)
  refine v_bipush (v := 75) dX6_readNumber_98 rfl ?_
  refine v_icmp_ne (tgt := 119) dX6_readNumber_100 (by decide) ?_ ?_
  · refine v_sub [0, 2, 3, 4] rfl ?_
    exact w_X6_readNumber_119 l E N m1 x2 x3 x4
  · refine v_sipush (v := 1000) dX6_readNumber_103 rfl ?_
    refine v_iload_n dX6_readNumber_106 rfl 3 rfl ?_
    refine v_imul dX6_readNumber_107 ?_
    refine v_istore_n (lv' := [(3, .int (1000 * x3)), (0, .ref (eAd E 38)), (1, .ref (eAd E 1)), (2, .int x2), (4, .int x4)]) dX6_readNumber_108 rfl (Nat.le_of_ble_eq_true rfl) rfl ?_
    refine v_aload_n dX6_readNumber_109 rfl 1 rfl ?_
    refine v_dup dX6_readNumber_110 rfl ?_
    refine gf_X6_at kc38 q201 dX6_readNumber_111 ?_
    refine v_iconst (v := 1) dX6_readNumber_114 rfl ?_
    refine v_iadd dX6_readNumber_115 ?_
    refine pf_X6_at kc38 q201 dX6_readNumber_116 (fun m2 => ?_)
    refine v_sub [1, 3, 0, 4] rfl ?_
    exact w_X6_readNumber_119 l E N m2 x2 (1000 * x3) x4
def f_X6_readNumber_36b (N : Nat) (rec_36 : Mem → Int32 → Int32 → Int32 → Option (Mem × Int32)) (m0 : Mem) (x2 : Int32) (x3 : Int32) (x4 : Int32) : Option (Mem × Int32) := if 6 ≤ x4 then (f_X6_readNumber_90 N m0 x2 x3 x4) else (bm (f_X4_byteAt m0 (m0 38 1)) (fun m1 r1 => bm (f_X8_isFigure m1 r1) (fun m2 r2 => if r2 = 0 then (f_X6_readNumber_90 N m2 x2 x3 x4) else (bm (f_X4_byteAt m2 (m2 38 1)) (fun m3 r3 => lm (up m3 38 1 ((m3 38 1) + 1)) (fun m4 => (rec_36 m4 x2 (((10 * x3) + r3) - 48) (x4 + 1))))))))
def f_X6_readNumber_36 (N : Nat) : Nat → Mem → Int32 → Int32 → Int32 → Option (Mem × Int32)
  | 0 => fun _ _ _ _ => none
  | n + 1 => f_X6_readNumber_36b N (f_X6_readNumber_36 N n)
theorem w_X6_readNumber_36b (l : Launch) (E : EnvT) (N : Nat) (rec_36 : Mem → Int32 → Int32 → Int32 → Option (Mem × Int32)) (hrec_36 : ∀ (m0 : Mem) (x2 : Int32) (x3 : Int32) (x4 : Int32), V l E RX6 cX6_readNumber 5 (some .boolean) (rm_X6_readNumber) 0 0 (Zm E) rvI (rec_36 m0 x2 x3 x4) m0 36 [(0, .ref (eAd E 38)), (1, .ref (eAd E 1)), (2, .int x2), (3, .int x3), (4, .int x4)] []) (m0 : Mem) (x2 : Int32) (x3 : Int32) (x4 : Int32) : V l E RX6 cX6_readNumber 5 (some .boolean) (rm_X6_readNumber) 0 0 (Zm E) rvI (f_X6_readNumber_36b N rec_36 m0 x2 x3 x4) m0 36 [(0, .ref (eAd E 38)), (1, .ref (eAd E 1)), (2, .int x2), (3, .int x3), (4, .int x4)] [] := by
  unfold f_X6_readNumber_36b
  refine v_iload dX6_readNumber_36 4 rfl ?_
  refine v_bipush (v := 6) dX6_readNumber_38 rfl ?_
  refine v_icmp_ge (tgt := 90) dX6_readNumber_40 (by decide) ?_ ?_
  · exact w_X6_readNumber_90 l E N m0 x2 x3 x4
  · refine v_aload_n dX6_readNumber_43 rfl 1 rfl ?_
    refine v_aload_n dX6_readNumber_44 rfl 0 rfl ?_
    refine gf_X6_at kc38 q201 dX6_readNumber_45 ?_
    refine v_callVi (q := 1) (ci := 4) (C := RX4) (T := TX4) (NN := 2) (As := [.int (m0 38 1)]) (rest := []) (c_X4_byteAt l E m0 (m0 38 1)) kv_X4_byteAt kc1 (by decide) rfl q486 ⟨rfl, rfl⟩ ⟨Nat.le_of_ble_eq_true rfl, Nat.le_of_ble_eq_true rfl⟩ ⟨Nat.zero_le _, Nat.zero_le _⟩ rfl rfl (Nat.le_of_ble_eq_true rfl) dX6_readNumber_48 (fun m1 r1 => ?_)
    refine v_callSNi (As := [.int r1]) (rest := []) (c_X8_isFigure l E m1 r1) ks_X8_isFigure nq591 ⟨rfl, rfl⟩ ⟨Nat.le_of_ble_eq_true rfl, Nat.le_of_ble_eq_true rfl⟩ ⟨Nat.zero_le _, Nat.zero_le _⟩ rfl rfl (Nat.le_of_ble_eq_true rfl) dX6_readNumber_51 (fun m2 r2 => ?_)
    refine v_if_eq (tgt := 90) dX6_readNumber_54 (by decide) ?_ ?_
    · exact w_X6_readNumber_90 l E N m2 x2 x3 x4
    · refine v_bipush (v := 10) dX6_readNumber_57 rfl ?_
      refine v_iload_n dX6_readNumber_59 rfl 3 rfl ?_
      refine v_imul dX6_readNumber_60 ?_
      refine v_aload_n dX6_readNumber_61 rfl 1 rfl ?_
      refine v_aload_n dX6_readNumber_62 rfl 0 rfl ?_
      refine gf_X6_at kc38 q201 dX6_readNumber_63 ?_
      refine v_callVi (q := 1) (ci := 4) (C := RX4) (T := TX4) (NN := 2) (As := [.int (m2 38 1)]) (rest := [.int (10 * x3)]) (c_X4_byteAt l E m2 (m2 38 1)) kv_X4_byteAt kc1 (by decide) rfl q486 ⟨rfl, rfl⟩ ⟨Nat.le_of_ble_eq_true rfl, Nat.le_of_ble_eq_true rfl⟩ ⟨Nat.zero_le _, Nat.zero_le _⟩ rfl rfl (Nat.le_of_ble_eq_true rfl) dX6_readNumber_66 (fun m3 r3 => ?_)
      refine v_iadd dX6_readNumber_69 ?_
      refine v_bipush (v := 48) dX6_readNumber_70 rfl ?_
      refine v_isub dX6_readNumber_72 ?_
      refine v_istore_n (lv' := [(3, .int (((10 * x3) + r3) - 48)), (0, .ref (eAd E 38)), (1, .ref (eAd E 1)), (2, .int x2), (4, .int x4)]) dX6_readNumber_73 rfl (Nat.le_of_ble_eq_true rfl) rfl ?_
      refine v_iinc (v := (x4 + 1)) (lv' := [(4, .int (x4 + 1)), (3, .int (((10 * x3) + r3) - 48)), (0, .ref (eAd E 38)), (1, .ref (eAd E 1)), (2, .int x2)]) dX6_readNumber_74 4 rfl rfl (Nat.le_of_ble_eq_true rfl) rfl ?_
      refine v_aload_n dX6_readNumber_77 rfl 2 rfl ?_
      refine v_dup dX6_readNumber_78 rfl ?_
      refine gf_X6_at kc38 q201 dX6_readNumber_79 ?_
      refine v_iconst (v := 1) dX6_readNumber_82 rfl ?_
      refine v_iadd dX6_readNumber_83 ?_
      refine pf_X6_at kc38 q201 dX6_readNumber_84 (fun m4 => ?_)
      refine v_goto (tgt := 36) dX6_readNumber_87 (by decide) ?_
      refine v_sub [2, 3, 4, 1, 0] rfl ?_
      exact hrec_36 m4 x2 (((10 * x3) + r3) - 48) (x4 + 1)
theorem w_X6_readNumber_36 (l : Launch) (E : EnvT) (N : Nat) : ∀ (n : Nat) (m0 : Mem) (x2 : Int32) (x3 : Int32) (x4 : Int32), V l E RX6 cX6_readNumber 5 (some .boolean) (rm_X6_readNumber) 0 0 (Zm E) rvI (f_X6_readNumber_36 N n m0 x2 x3 x4) m0 36 [(0, .ref (eAd E 38)), (1, .ref (eAd E 1)), (2, .int x2), (3, .int x3), (4, .int x4)] [] := by
  intro n
  induction n with
  | zero => intros; exact v_none
  | succ n ih => exact w_X6_readNumber_36b l E N _ ih
def f_X6_readNumber_31 (N : Nat) (m0 : Mem) (x2 : Int32) : Option (Mem × Int32) := (f_X6_readNumber_36 N N m0 x2 0 0)
theorem w_X6_readNumber_31 (l : Launch) (E : EnvT) (N : Nat) (m0 : Mem) (x2 : Int32) : V l E RX6 cX6_readNumber 5 (some .boolean) (rm_X6_readNumber) 0 0 (Zm E) rvI (f_X6_readNumber_31 N m0 x2) m0 31 [(0, .ref (eAd E 38)), (1, .ref (eAd E 1)), (2, .int x2)] [] := by
  unfold f_X6_readNumber_31
  refine v_iconst (v := 0) dX6_readNumber_31 rfl ?_
  refine v_istore_n (lv' := [(3, .int 0), (0, .ref (eAd E 38)), (1, .ref (eAd E 1)), (2, .int x2)]) dX6_readNumber_32 rfl (Nat.le_of_ble_eq_true rfl) rfl ?_
  refine v_iconst (v := 0) dX6_readNumber_33 rfl ?_
  refine v_istore (lv' := [(4, .int 0), (3, .int 0), (0, .ref (eAd E 38)), (1, .ref (eAd E 1)), (2, .int x2)]) dX6_readNumber_34 (Nat.le_of_ble_eq_true rfl) rfl ?_
  refine v_sub [2, 3, 4, 1, 0] rfl ?_
  exact w_X6_readNumber_36 l E N N m0 x2 0 0
def f_X6_readNumber_21 (N : Nat) (m0 : Mem) (x2 : Int32) : Option (Mem × Int32) := lm (up m0 38 1 ((m0 38 1) + 1)) (fun m1 => (f_X6_readNumber_31 N m1 x2))
theorem w_X6_readNumber_21 (l : Launch) (E : EnvT) (N : Nat) (m0 : Mem) (x2 : Int32) : V l E RX6 cX6_readNumber 5 (some .boolean) (rm_X6_readNumber) 0 0 (Zm E) rvI (f_X6_readNumber_21 N m0 x2) m0 21 [(0, .ref (eAd E 38)), (1, .ref (eAd E 1)), (2, .int x2)] [] := by
  unfold f_X6_readNumber_21
  refine v_aload_n dX6_readNumber_21 rfl 0 rfl ?_
  refine v_dup dX6_readNumber_22 rfl ?_
  refine gf_X6_at kc38 q201 dX6_readNumber_23 ?_
  refine v_iconst (v := 1) dX6_readNumber_26 rfl ?_
  refine v_iadd dX6_readNumber_27 ?_
  refine pf_X6_at kc38 q201 dX6_readNumber_28 (fun m1 => ?_)
  exact w_X6_readNumber_31 l E N m1 x2
def f_X6_readNumber (N : Nat) (m0 : Mem) : Option (Mem × Int32) := bm (f_X4_byteAt m0 (m0 38 1)) (fun m1 r1 => if r1 = 43 then (f_X6_readNumber_21 N m1 r1) else (if r1 = 45 then (f_X6_readNumber_21 N m1 r1) else (f_X6_readNumber_31 N m1 r1)))
theorem c_X6_readNumber (l : Launch) (E : EnvT) (N : Nat) (m0 : Mem) : CT l E yX6_readNumber cX6_readNumber 5 (some .boolean) (rm_X6_readNumber) rvI (f_X6_readNumber N m0) [.ref (eAd E 38), .ref (eAd E 1)] m0 := by
  refine CT.ofV (own := RX6) (by decide) rfl (Nat.le_of_ble_eq_true rfl) ?_
  show V l E RX6 cX6_readNumber 5 (some .boolean) (rm_X6_readNumber) 0 0 (Zm E) rvI _ m0 0 [(0, .ref (eAd E 38)), (1, .ref (eAd E 1))] []
  unfold f_X6_readNumber
  refine v_aload_n dX6_readNumber_0 rfl 1 rfl ?_
  refine v_aload_n dX6_readNumber_1 rfl 0 rfl ?_
  refine gf_X6_at kc38 q201 dX6_readNumber_2 ?_
  refine v_callVi (q := 1) (ci := 4) (C := RX4) (T := TX4) (NN := 2) (As := [.int (m0 38 1)]) (rest := []) (c_X4_byteAt l E m0 (m0 38 1)) kv_X4_byteAt kc1 (by decide) rfl q486 ⟨rfl, rfl⟩ ⟨Nat.le_of_ble_eq_true rfl, Nat.le_of_ble_eq_true rfl⟩ ⟨Nat.zero_le _, Nat.zero_le _⟩ rfl rfl (Nat.le_of_ble_eq_true rfl) dX6_readNumber_5 (fun m1 r1 => ?_)
  refine v_istore_n (lv' := [(2, .int r1), (0, .ref (eAd E 38)), (1, .ref (eAd E 1))]) dX6_readNumber_8 rfl (Nat.le_of_ble_eq_true rfl) rfl ?_
  refine v_iload_n dX6_readNumber_9 rfl 0 rfl ?_
  refine v_bipush (v := 43) dX6_readNumber_10 rfl ?_
  refine v_icmp_eq (tgt := 21) dX6_readNumber_12 (by decide) ?_ ?_
  · refine v_sub [1, 2, 0] rfl ?_
    exact w_X6_readNumber_21 l E N m1 r1
  · refine v_iload_n dX6_readNumber_15 rfl 0 rfl ?_
    refine v_bipush (v := 45) dX6_readNumber_16 rfl ?_
    refine v_icmp_ne (tgt := 31) dX6_readNumber_18 (by decide) ?_ ?_
    · refine v_sub [1, 2, 0] rfl ?_
      exact w_X6_readNumber_31 l E N m1 r1
    · refine v_sub [1, 2, 0] rfl ?_
      exact w_X6_readNumber_21 l E N m1 r1

def rm_X6_readValue : Room := { frames := 10, cells := 0, slots := 0, locals := 447 }
def f_X6_readValue (N : Nat) (m0 : Mem) : Option (Mem × Int32) := bm (f_X4_byteAt m0 (m0 38 1)) (fun m1 r1 => bm (f_X8_isLetter m1 r1) (fun m2 r2 => if r2 = 0 then (bm (f_X6_readNumber N m2) (fun m3 r3 => gd (isB r3) (some (m3, r3)))) else (bm (f_X6_readSwitch N m2) (fun m4 r4 => gd (isB r4) (some (m4, r4))))))
theorem c_X6_readValue (l : Launch) (E : EnvT) (N : Nat) (m0 : Mem) : CT l E yX6_readValue cX6_readValue 2 (some .boolean) (rm_X6_readValue) rvI (f_X6_readValue N m0) [.ref (eAd E 38), .ref (eAd E 1)] m0 := by
  refine CT.ofV (own := RX6) (by decide) rfl (Nat.le_of_ble_eq_true rfl) ?_
  show V l E RX6 cX6_readValue 2 (some .boolean) (rm_X6_readValue) 0 0 (Zm E) rvI _ m0 0 [(0, .ref (eAd E 38)), (1, .ref (eAd E 1))] []
  unfold f_X6_readValue
  refine v_aload_n dX6_readValue_0 rfl 1 rfl ?_
  refine v_aload_n dX6_readValue_1 rfl 0 rfl ?_
  refine gf_X6_at kc38 q201 dX6_readValue_2 ?_
  refine v_callVi (q := 1) (ci := 4) (C := RX4) (T := TX4) (NN := 2) (As := [.int (m0 38 1)]) (rest := []) (c_X4_byteAt l E m0 (m0 38 1)) kv_X4_byteAt kc1 (by decide) rfl q486 ⟨rfl, rfl⟩ ⟨Nat.le_of_ble_eq_true rfl, Nat.le_of_ble_eq_true rfl⟩ ⟨Nat.zero_le _, Nat.zero_le _⟩ rfl rfl (Nat.le_of_ble_eq_true rfl) dX6_readValue_5 (fun m1 r1 => ?_)
  refine v_callSNi (As := [.int r1]) (rest := []) (c_X8_isLetter l E m1 r1) ks_X8_isLetter nq527 ⟨rfl, rfl⟩ ⟨Nat.le_of_ble_eq_true rfl, Nat.le_of_ble_eq_true rfl⟩ ⟨Nat.zero_le _, Nat.zero_le _⟩ rfl rfl (Nat.le_of_ble_eq_true rfl) dX6_readValue_8 (fun m2 r2 => ?_)
  refine v_if_eq (tgt := 22) dX6_readValue_11 (by decide) ?_ ?_
  · refine v_aload_n dX6_readValue_22 rfl 0 rfl ?_
    refine v_aload_n dX6_readValue_23 rfl 1 rfl ?_
    refine v_callVi (q := 38) (ci := 6) (C := RX6) (T := TX6) (NN := 9) (As := [.ref (eAd E 1)]) (rest := []) (c_X6_readNumber l E N m2) kv_X6_readNumber kc38 (by decide) rfl q587 ⟨rfl, rfl⟩ ⟨Nat.le_of_ble_eq_true rfl, Nat.le_of_ble_eq_true rfl⟩ ⟨Nat.zero_le _, Nat.zero_le _⟩ rfl rfl (Nat.le_of_ble_eq_true rfl) dX6_readValue_24 (fun m3 r3 => ?_)
    refine v_gd (fun g27 => ?_)
    exact v_zret g27 dX6_readValue_27
  · refine v_aload_n dX6_readValue_14 rfl 0 rfl ?_
    refine v_aload_n dX6_readValue_15 rfl 1 rfl ?_
    refine v_callVi (q := 38) (ci := 6) (C := RX6) (T := TX6) (NN := 9) (As := [.ref (eAd E 1)]) (rest := []) (c_X6_readSwitch l E N m2) kv_X6_readSwitch kc38 (by decide) rfl q528 ⟨rfl, rfl⟩ ⟨Nat.le_of_ble_eq_true rfl, Nat.le_of_ble_eq_true rfl⟩ ⟨Nat.zero_le _, Nat.zero_le _⟩ rfl rfl (Nat.le_of_ble_eq_true rfl) dX6_readValue_16 (fun m4 r4 => ?_)
    refine v_goto (tgt := 27) dX6_readValue_19 (by decide) ?_
    refine v_gd (fun g27 => ?_)
    exact v_zret g27 dX6_readValue_27

def rm_X6_readBehindHeader : Room := { frames := 11, cells := 0, slots := 0, locals := 468 }
def f_X6_readBehindHeader_31 (N : Nat) (m0 : Mem) (x2 : Int32) (s1 : Int32) : Option (Mem × Int32) := gd (isB s1) (lm (up m0 38 7 s1) (fun m1 => if (m1 38 7) = 0 then (some (m1, 1)) else (if (m1 38 1) = x2 then (some (m1, 0)) else (bm (f_X6_readValue N m1) (fun m2 r2 => if r2 = 0 then (some (m2, 0)) else (bm (f_X4_pastBlanks N m2 (m2 38 1)) (fun m3 r3 => lm (up m3 38 1 r3) (fun m4 => bm (f_X6_isUnitEnd m4) (fun m5 r5 => gd (isB r5) (some (m5, r5)))))))))))
theorem w_X6_readBehindHeader_31 (l : Launch) (E : EnvT) (N : Nat) (m0 : Mem) (x2 : Int32) (s1 : Int32) : V l E RX6 cX6_readBehindHeader 3 (some .boolean) (rm_X6_readBehindHeader) 0 0 (Zm E) rvI (f_X6_readBehindHeader_31 N m0 x2 s1) m0 31 [(0, .ref (eAd E 38)), (1, .ref (eAd E 1)), (2, .int x2)] [.int s1, .ref (eAd E 38)] := by
  unfold f_X6_readBehindHeader_31
  refine v_gd (fun g31 => ?_)
  refine pf_X6_hasValue kc38 q209 g31 dX6_readBehindHeader_31 (fun m1 => ?_)
  refine v_aload_n dX6_readBehindHeader_34 rfl 0 rfl ?_
  refine gf_X6_hasValue kc38 q209 dX6_readBehindHeader_35 ?_
  refine v_if_ne (tgt := 43) dX6_readBehindHeader_38 (by decide) ?_ ?_
  · refine v_aload_n dX6_readBehindHeader_43 rfl 0 rfl ?_
    refine gf_X6_at kc38 q201 dX6_readBehindHeader_44 ?_
    refine v_iload_n dX6_readBehindHeader_47 rfl 2 rfl ?_
    refine v_icmp_eq (tgt := 59) dX6_readBehindHeader_48 (by decide) ?_ ?_
    · refine v_iconst (v := 0) dX6_readBehindHeader_59 rfl ?_
      exact v_zret rfl dX6_readBehindHeader_60
    · refine v_aload_n dX6_readBehindHeader_51 rfl 0 rfl ?_
      refine v_aload_n dX6_readBehindHeader_52 rfl 1 rfl ?_
      refine v_callVi (q := 38) (ci := 6) (C := RX6) (T := TX6) (NN := 9) (As := [.ref (eAd E 1)]) (rest := []) (c_X6_readValue l E N m1) kv_X6_readValue kc38 (by decide) rfl q523 ⟨rfl, rfl⟩ ⟨Nat.le_of_ble_eq_true rfl, Nat.le_of_ble_eq_true rfl⟩ ⟨Nat.zero_le _, Nat.zero_le _⟩ rfl rfl (Nat.le_of_ble_eq_true rfl) dX6_readBehindHeader_53 (fun m2 r2 => ?_)
      refine v_if_ne (tgt := 61) dX6_readBehindHeader_56 (by decide) ?_ ?_
      · refine v_aload_n dX6_readBehindHeader_61 rfl 0 rfl ?_
        refine v_aload_n dX6_readBehindHeader_62 rfl 1 rfl ?_
        refine v_aload_n dX6_readBehindHeader_63 rfl 0 rfl ?_
        refine gf_X6_at kc38 q201 dX6_readBehindHeader_64 ?_
        refine v_callVi (q := 1) (ci := 4) (C := RX4) (T := TX4) (NN := 2) (As := [.int (m2 38 1)]) (rest := [.ref (eAd E 38)]) (c_X4_pastBlanks l E N m2 (m2 38 1)) kv_X4_pastBlanks kc1 (by decide) rfl q482 ⟨rfl, rfl⟩ ⟨Nat.le_of_ble_eq_true rfl, Nat.le_of_ble_eq_true rfl⟩ ⟨Nat.zero_le _, Nat.zero_le _⟩ rfl rfl (Nat.le_of_ble_eq_true rfl) dX6_readBehindHeader_67 (fun m3 r3 => ?_)
        refine pf_X6_at kc38 q201 dX6_readBehindHeader_70 (fun m4 => ?_)
        refine v_aload_n dX6_readBehindHeader_73 rfl 0 rfl ?_
        refine v_aload_n dX6_readBehindHeader_74 rfl 1 rfl ?_
        refine v_callVi (q := 38) (ci := 6) (C := RX6) (T := TX6) (NN := 9) (As := [.ref (eAd E 1)]) (rest := []) (c_X6_isUnitEnd l E m4) kv_X6_isUnitEnd kc38 (by decide) rfl q519 ⟨rfl, rfl⟩ ⟨Nat.le_of_ble_eq_true rfl, Nat.le_of_ble_eq_true rfl⟩ ⟨Nat.zero_le _, Nat.zero_le _⟩ rfl rfl (Nat.le_of_ble_eq_true rfl) dX6_readBehindHeader_75 (fun m5 r5 => ?_)
        refine v_gd (fun g78 => ?_)
        exact v_zret g78 dX6_readBehindHeader_78
      · refine v_iconst (v := 0) dX6_readBehindHeader_59 rfl ?_
        exact v_zret rfl dX6_readBehindHeader_60
  · refine v_iconst (v := 1) dX6_readBehindHeader_41 rfl ?_
    exact v_zret rfl dX6_readBehindHeader_42
def f_X6_readBehindHeader (N : Nat) (m0 : Mem) : Option (Mem × Int32) := bm (f_X4_pastBlanks N m0 (m0 38 1)) (fun m1 r1 => lm (up m1 38 1 r1) (fun m2 => bm (f_X6_isUnitEnd m2) (fun m3 r3 => if r3 = 0 then (f_X6_readBehindHeader_31 N m3 (m0 38 1) 1) else (f_X6_readBehindHeader_31 N m3 (m0 38 1) 0))))
theorem c_X6_readBehindHeader (l : Launch) (E : EnvT) (N : Nat) (m0 : Mem) : CT l E yX6_readBehindHeader cX6_readBehindHeader 3 (some .boolean) (rm_X6_readBehindHeader) rvI (f_X6_readBehindHeader N m0) [.ref (eAd E 38), .ref (eAd E 1)] m0 := by
  refine CT.ofV (own := RX6) (by decide) rfl (Nat.le_of_ble_eq_true rfl) ?_
  show V l E RX6 cX6_readBehindHeader 3 (some .boolean) (rm_X6_readBehindHeader) 0 0 (Zm E) rvI _ m0 0 [(0, .ref (eAd E 38)), (1, .ref (eAd E 1))] []
  unfold f_X6_readBehindHeader
  refine v_aload_n dX6_readBehindHeader_0 rfl 0 rfl ?_
  refine gf_X6_at kc38 q201 dX6_readBehindHeader_1 ?_
  refine v_istore_n (lv' := [(2, .int (m0 38 1)), (0, .ref (eAd E 38)), (1, .ref (eAd E 1))]) dX6_readBehindHeader_4 rfl (Nat.le_of_ble_eq_true rfl) rfl ?_
  refine v_aload_n dX6_readBehindHeader_5 rfl 1 rfl ?_
  refine v_aload_n dX6_readBehindHeader_6 rfl 2 rfl ?_
  refine v_aload_n dX6_readBehindHeader_7 rfl 1 rfl ?_
  refine gf_X6_at kc38 q201 dX6_readBehindHeader_8 ?_
  refine v_callVi (q := 1) (ci := 4) (C := RX4) (T := TX4) (NN := 2) (As := [.int (m0 38 1)]) (rest := [.ref (eAd E 38)]) (c_X4_pastBlanks l E N m0 (m0 38 1)) kv_X4_pastBlanks kc1 (by decide) rfl q482 ⟨rfl, rfl⟩ ⟨Nat.le_of_ble_eq_true rfl, Nat.le_of_ble_eq_true rfl⟩ ⟨Nat.zero_le _, Nat.zero_le _⟩ rfl rfl (Nat.le_of_ble_eq_true rfl) dX6_readBehindHeader_11 (fun m1 r1 => ?_)
  refine pf_X6_at kc38 q201 dX6_readBehindHeader_14 (fun m2 => ?_)
  refine v_aload_n dX6_readBehindHeader_17 rfl 1 rfl ?_
  refine v_aload_n dX6_readBehindHeader_18 rfl 1 rfl ?_
  refine v_aload_n dX6_readBehindHeader_19 rfl 2 rfl ?_
  refine v_callVi (q := 38) (ci := 6) (C := RX6) (T := TX6) (NN := 9) (As := [.ref (eAd E 1)]) (rest := [.ref (eAd E 38)]) (c_X6_isUnitEnd l E m2) kv_X6_isUnitEnd kc38 (by decide) rfl q519 ⟨rfl, rfl⟩ ⟨Nat.le_of_ble_eq_true rfl, Nat.le_of_ble_eq_true rfl⟩ ⟨Nat.zero_le _, Nat.zero_le _⟩ rfl rfl (Nat.le_of_ble_eq_true rfl) dX6_readBehindHeader_20 (fun m3 r3 => ?_)
  refine v_if_ne (tgt := 30) dX6_readBehindHeader_23 (by decide) ?_ ?_
  · refine v_iconst (v := 0) dX6_readBehindHeader_30 rfl ?_
    refine v_sub [1, 2, 0] rfl ?_
    exact w_X6_readBehindHeader_31 l E N m3 (m0 38 1) 0
  · refine v_iconst (v := 1) dX6_readBehindHeader_26 rfl ?_
    refine v_goto (tgt := 31) dX6_readBehindHeader_27 (by decide) ?_
    refine v_sub [1, 2, 0] rfl ?_
    exact w_X6_readBehindHeader_31 l E N m3 (m0 38 1) 1

def rm_X6_read : Room := { frames := 12, cells := 0, slots := 0, locals := 490 }
def f_X6_read_100 (N : Nat) (m0 : Mem) : Option (Mem × Int32) := bm (f_X6_readBehindHeader N m0) (fun m1 r1 => gd (isB r1) (some (m1, r1)))
theorem w_X6_read_100 (l : Launch) (E : EnvT) (N : Nat) (m0 : Mem) : V l E RX6 cX6_read 3 (some .boolean) (rm_X6_read) 0 0 (Zm E) rvI (f_X6_read_100 N m0) m0 100 [(0, .ref (eAd E 38)), (1, .ref (eAd E 1))] [] := by
  unfold f_X6_read_100
  refine v_aload_n dX6_read_100 rfl 0 rfl ?_
  refine v_aload_n dX6_read_101 rfl 1 rfl ?_
  refine v_callVi (q := 38) (ci := 6) (C := RX6) (T := TX6) (NN := 9) (As := [.ref (eAd E 1)]) (rest := []) (c_X6_readBehindHeader l E N m0) kv_X6_readBehindHeader kc38 (by decide) rfl q515 ⟨rfl, rfl⟩ ⟨Nat.le_of_ble_eq_true rfl, Nat.le_of_ble_eq_true rfl⟩ ⟨Nat.zero_le _, Nat.zero_le _⟩ rfl rfl (Nat.le_of_ble_eq_true rfl) dX6_read_102 (fun m1 r1 => ?_)
  refine v_gd (fun g105 => ?_)
  exact v_zret g105 dX6_read_105
def f_X6_read_80 (N : Nat) (m0 : Mem) (s1 : Int32) : Option (Mem × Int32) := gd (isB s1) (lm (up m0 38 6 s1) (fun m1 => if (m1 38 6) = 0 then (f_X6_read_100 N m1) else (lm (up m1 38 1 ((m1 38 1) + 1)) (fun m2 => (f_X6_read_100 N m2)))))
theorem w_X6_read_80 (l : Launch) (E : EnvT) (N : Nat) (m0 : Mem) (s1 : Int32) : V l E RX6 cX6_read 3 (some .boolean) (rm_X6_read) 0 0 (Zm E) rvI (f_X6_read_80 N m0 s1) m0 80 [(0, .ref (eAd E 38)), (1, .ref (eAd E 1))] [.int s1, .ref (eAd E 38)] := by
  unfold f_X6_read_80
  refine v_gd (fun g80 => ?_)
  refine pf_X6_isQuestion kc38 q207 g80 dX6_read_80 (fun m1 => ?_)
  refine v_aload_n dX6_read_83 rfl 0 rfl ?_
  refine gf_X6_isQuestion kc38 q207 dX6_read_84 ?_
  refine v_if_eq (tgt := 100) dX6_read_87 (by decide) ?_ ?_
  · exact w_X6_read_100 l E N m1
  · refine v_aload_n dX6_read_90 rfl 0 rfl ?_
    refine v_dup dX6_read_91 rfl ?_
    refine gf_X6_at kc38 q201 dX6_read_92 ?_
    refine v_iconst (v := 1) dX6_read_95 rfl ?_
    refine v_iadd dX6_read_96 ?_
    refine pf_X6_at kc38 q201 dX6_read_97 (fun m2 => ?_)
    exact w_X6_read_100 l E N m2
def f_X6_read_54 (N : Nat) (m0 : Mem) (s0 : Int32) : Option (Mem × Int32) := if s0 = 0 then (some (m0, 0)) else (bm (f_X4_byteAt m0 (m0 38 1)) (fun m1 r1 => if r1 = 63 then (f_X6_read_80 N m1 1) else (f_X6_read_80 N m1 0)))
theorem w_X6_read_54 (l : Launch) (E : EnvT) (N : Nat) (m0 : Mem) (s0 : Int32) : V l E RX6 cX6_read 3 (some .boolean) (rm_X6_read) 0 0 (Zm E) rvI (f_X6_read_54 N m0 s0) m0 54 [(0, .ref (eAd E 38)), (1, .ref (eAd E 1))] [.int s0] := by
  unfold f_X6_read_54
  refine v_istore_n (lv' := [(2, .int s0), (0, .ref (eAd E 38)), (1, .ref (eAd E 1))]) dX6_read_54 rfl (Nat.le_of_ble_eq_true rfl) rfl ?_
  refine v_iload_n dX6_read_55 rfl 0 rfl ?_
  refine v_if_ne (tgt := 61) dX6_read_56 (by decide) ?_ ?_
  · refine v_aload_n dX6_read_61 rfl 1 rfl ?_
    refine v_aload_n dX6_read_62 rfl 2 rfl ?_
    refine v_aload_n dX6_read_63 rfl 1 rfl ?_
    refine gf_X6_at kc38 q201 dX6_read_64 ?_
    refine v_callVi (q := 1) (ci := 4) (C := RX4) (T := TX4) (NN := 2) (As := [.int (m0 38 1)]) (rest := [.ref (eAd E 38)]) (c_X4_byteAt l E m0 (m0 38 1)) kv_X4_byteAt kc1 (by decide) rfl q486 ⟨rfl, rfl⟩ ⟨Nat.le_of_ble_eq_true rfl, Nat.le_of_ble_eq_true rfl⟩ ⟨Nat.zero_le _, Nat.zero_le _⟩ rfl rfl (Nat.le_of_ble_eq_true rfl) dX6_read_67 (fun m1 r1 => ?_)
    refine v_bipush (v := 63) dX6_read_70 rfl ?_
    refine v_icmp_ne (tgt := 79) dX6_read_72 (by decide) ?_ ?_
    · refine v_iconst (v := 0) dX6_read_79 rfl ?_
      refine v_sub [1, 2] rfl ?_
      exact w_X6_read_80 l E N m1 0
    · refine v_iconst (v := 1) dX6_read_75 rfl ?_
      refine v_goto (tgt := 80) dX6_read_76 (by decide) ?_
      refine v_sub [1, 2] rfl ?_
      exact w_X6_read_80 l E N m1 1
  · refine v_iconst (v := 0) dX6_read_59 rfl ?_
    exact v_zret rfl dX6_read_60
def f_X6_read_31 (N : Nat) (m0 : Mem) (s1 : Int32) : Option (Mem × Int32) := gd (isB s1) (lm (up m0 38 3 s1) (fun m1 => if (m1 38 3) = 0 then (bm (f_X6_readWordsHeader N m1) (fun m2 r2 => (f_X6_read_54 N m2 r2))) else (bm (f_X6_readCommonHeader N m1) (fun m3 r3 => (f_X6_read_54 N m3 r3)))))
theorem w_X6_read_31 (l : Launch) (E : EnvT) (N : Nat) (m0 : Mem) (s1 : Int32) : V l E RX6 cX6_read 3 (some .boolean) (rm_X6_read) 0 0 (Zm E) rvI (f_X6_read_31 N m0 s1) m0 31 [(0, .ref (eAd E 38)), (1, .ref (eAd E 1))] [.int s1, .ref (eAd E 38)] := by
  unfold f_X6_read_31
  refine v_gd (fun g31 => ?_)
  refine pf_X6_isCommon kc38 q203 g31 dX6_read_31 (fun m1 => ?_)
  refine v_aload_n dX6_read_34 rfl 0 rfl ?_
  refine gf_X6_isCommon kc38 q203 dX6_read_35 ?_
  refine v_if_eq (tgt := 49) dX6_read_38 (by decide) ?_ ?_
  · refine v_aload_n dX6_read_49 rfl 0 rfl ?_
    refine v_aload_n dX6_read_50 rfl 1 rfl ?_
    refine v_callVi (q := 38) (ci := 6) (C := RX6) (T := TX6) (NN := 9) (As := [.ref (eAd E 1)]) (rest := []) (c_X6_readWordsHeader l E N m1) kv_X6_readWordsHeader kc38 (by decide) rfl q499 ⟨rfl, rfl⟩ ⟨Nat.le_of_ble_eq_true rfl, Nat.le_of_ble_eq_true rfl⟩ ⟨Nat.zero_le _, Nat.zero_le _⟩ rfl rfl (Nat.le_of_ble_eq_true rfl) dX6_read_51 (fun m2 r2 => ?_)
    exact w_X6_read_54 l E N m2 r2
  · refine v_aload_n dX6_read_41 rfl 0 rfl ?_
    refine v_aload_n dX6_read_42 rfl 1 rfl ?_
    refine v_callVi (q := 38) (ci := 6) (C := RX6) (T := TX6) (NN := 9) (As := [.ref (eAd E 1)]) (rest := []) (c_X6_readCommonHeader l E N m1) kv_X6_readCommonHeader kc38 (by decide) rfl q487 ⟨rfl, rfl⟩ ⟨Nat.le_of_ble_eq_true rfl, Nat.le_of_ble_eq_true rfl⟩ ⟨Nat.zero_le _, Nat.zero_le _⟩ rfl rfl (Nat.le_of_ble_eq_true rfl) dX6_read_43 (fun m3 r3 => ?_)
    refine v_goto (tgt := 54) dX6_read_46 (by decide) ?_
    exact w_X6_read_54 l E N m3 r3
def f_X6_read (N : Nat) (m0 : Mem) : Option (Mem × Int32) := bm (f_X4_pastBlanks N m0 (m0 38 1)) (fun m1 r1 => lm (up m1 38 1 r1) (fun m2 => bm (f_X4_byteAt m2 (m2 38 1)) (fun m3 r3 => if r3 = 42 then (f_X6_read_31 N m3 1) else (f_X6_read_31 N m3 0))))
theorem c_X6_read (l : Launch) (E : EnvT) (N : Nat) (m0 : Mem) : CT l E yX6_read cX6_read 3 (some .boolean) (rm_X6_read) rvI (f_X6_read N m0) [.ref (eAd E 38), .ref (eAd E 1)] m0 := by
  refine CT.ofV (own := RX6) (by decide) rfl (Nat.le_of_ble_eq_true rfl) ?_
  show V l E RX6 cX6_read 3 (some .boolean) (rm_X6_read) 0 0 (Zm E) rvI _ m0 0 [(0, .ref (eAd E 38)), (1, .ref (eAd E 1))] []
  unfold f_X6_read
  refine v_aload_n dX6_read_0 rfl 0 rfl ?_
  refine v_aload_n dX6_read_1 rfl 1 rfl ?_
  refine v_aload_n dX6_read_2 rfl 0 rfl ?_
  refine gf_X6_at kc38 q201 dX6_read_3 ?_
  refine v_callVi (q := 1) (ci := 4) (C := RX4) (T := TX4) (NN := 2) (As := [.int (m0 38 1)]) (rest := [.ref (eAd E 38)]) (c_X4_pastBlanks l E N m0 (m0 38 1)) kv_X4_pastBlanks kc1 (by decide) rfl q482 ⟨rfl, rfl⟩ ⟨Nat.le_of_ble_eq_true rfl, Nat.le_of_ble_eq_true rfl⟩ ⟨Nat.zero_le _, Nat.zero_le _⟩ rfl rfl (Nat.le_of_ble_eq_true rfl) dX6_read_6 (fun m1 r1 => ?_)
  refine pf_X6_at kc38 q201 dX6_read_9 (fun m2 => ?_)
  refine v_aload_n dX6_read_12 rfl 0 rfl ?_
  refine v_aload_n dX6_read_13 rfl 1 rfl ?_
  refine v_aload_n dX6_read_14 rfl 0 rfl ?_
  refine gf_X6_at kc38 q201 dX6_read_15 ?_
  refine v_callVi (q := 1) (ci := 4) (C := RX4) (T := TX4) (NN := 2) (As := [.int (m2 38 1)]) (rest := [.ref (eAd E 38)]) (c_X4_byteAt l E m2 (m2 38 1)) kv_X4_byteAt kc1 (by decide) rfl q486 ⟨rfl, rfl⟩ ⟨Nat.le_of_ble_eq_true rfl, Nat.le_of_ble_eq_true rfl⟩ ⟨Nat.zero_le _, Nat.zero_le _⟩ rfl rfl (Nat.le_of_ble_eq_true rfl) dX6_read_18 (fun m3 r3 => ?_)
  refine v_bipush (v := 42) dX6_read_21 rfl ?_
  refine v_icmp_ne (tgt := 30) dX6_read_23 (by decide) ?_ ?_
  · refine v_iconst (v := 0) dX6_read_30 rfl ?_
    exact w_X6_read_31 l E N m3 0
  · refine v_iconst (v := 1) dX6_read_26 rfl ?_
    refine v_goto (tgt := 31) dX6_read_27 (by decide) ?_
    exact w_X6_read_31 l E N m3 1

def rm_X6_commonWord : Room := { frames := 9, cells := 0, slots := 0, locals := 424 }
def f_X6_commonWord (N : Nat) (m0 : Mem) : Option (Mem × Int32) := bm (f_X4_spells N 0 m0 (m0 38 4) (m0 38 5)) (fun m1 r1 => if r1 = 0 then (bm (f_X4_spells N 1 m1 (m1 38 4) (m1 38 5)) (fun m2 r2 => if r2 = 0 then (bm (f_X4_spells N 2 m2 (m2 38 4) (m2 38 5)) (fun m3 r3 => if r3 = 0 then (bm (f_X4_spells N 3 m3 (m3 38 4) (m3 38 5)) (fun m4 r4 => if r4 = 0 then (bm (f_X4_spells N 4 m4 (m4 38 4) (m4 38 5)) (fun m5 r5 => if r5 = 0 then (bm (f_X4_spells N 5 m5 (m5 38 4) (m5 38 5)) (fun m6 r6 => if r6 = 0 then (bm (f_X4_spells N 6 m6 (m6 38 4) (m6 38 5)) (fun m7 r7 => if r7 = 0 then (some (m7, 0)) else (some (m7, 7)))) else (some (m6, 6)))) else (some (m5, 5)))) else (some (m4, 4)))) else (some (m3, 3)))) else (some (m2, 2)))) else (some (m1, 1)))
theorem c_X6_commonWord (l : Launch) (E : EnvT) (N : Nat) (m0 : Mem) : CT l E yX6_commonWord cX6_commonWord 2 (some .int) (rm_X6_commonWord) rvI (f_X6_commonWord N m0) [.ref (eAd E 38), .ref (eAd E 1)] m0 := by
  refine CT.ofV (own := RX6) (by decide) rfl (Nat.le_of_ble_eq_true rfl) ?_
  show V l E RX6 cX6_commonWord 2 (some .int) (rm_X6_commonWord) 0 0 (Zm E) rvI _ m0 0 [(0, .ref (eAd E 38)), (1, .ref (eAd E 1))] []
  unfold f_X6_commonWord
  refine v_aload_n dX6_commonWord_0 rfl 1 rfl ?_
  refine v_aload_n dX6_commonWord_1 rfl 0 rfl ?_
  refine gf_X6_commonStart kc38 q205 dX6_commonWord_2 ?_
  refine v_aload_n dX6_commonWord_5 rfl 0 rfl ?_
  refine gf_X6_commonEnd kc38 q206 dX6_commonWord_6 ?_
  refine v_ldcS (i := 0) (by decide) rfl rfl rfl dX6_commonWord_9 ?_
  refine v_callVi (q := 1) (ci := 4) (C := RX4) (T := TX4) (NN := 2) (As := [.int (m0 38 4), .int (m0 38 5), .ref (eK E 0)]) (rest := []) (c_X4_spells l E N 0 (by decide) m0 (m0 38 4) (m0 38 5)) kv_X4_spells kc1 (by decide) rfl q533 ⟨rfl, rfl⟩ ⟨Nat.le_of_ble_eq_true rfl, Nat.le_of_ble_eq_true rfl⟩ ⟨Nat.zero_le _, Nat.zero_le _⟩ rfl rfl (Nat.le_of_ble_eq_true rfl) dX6_commonWord_11 (fun m1 r1 => ?_)
  refine v_if_eq (tgt := 19) dX6_commonWord_14 (by decide) ?_ ?_
  · refine v_aload_n dX6_commonWord_19 rfl 1 rfl ?_
    refine v_aload_n dX6_commonWord_20 rfl 0 rfl ?_
    refine gf_X6_commonStart kc38 q205 dX6_commonWord_21 ?_
    refine v_aload_n dX6_commonWord_24 rfl 0 rfl ?_
    refine gf_X6_commonEnd kc38 q206 dX6_commonWord_25 ?_
    refine v_ldcS (i := 1) (by decide) rfl rfl rfl dX6_commonWord_28 ?_
    refine v_callVi (q := 1) (ci := 4) (C := RX4) (T := TX4) (NN := 2) (As := [.int (m1 38 4), .int (m1 38 5), .ref (eK E 1)]) (rest := []) (c_X4_spells l E N 1 (by decide) m1 (m1 38 4) (m1 38 5)) kv_X4_spells kc1 (by decide) rfl q533 ⟨rfl, rfl⟩ ⟨Nat.le_of_ble_eq_true rfl, Nat.le_of_ble_eq_true rfl⟩ ⟨Nat.zero_le _, Nat.zero_le _⟩ rfl rfl (Nat.le_of_ble_eq_true rfl) dX6_commonWord_30 (fun m2 r2 => ?_)
    refine v_if_eq (tgt := 38) dX6_commonWord_33 (by decide) ?_ ?_
    · refine v_aload_n dX6_commonWord_38 rfl 1 rfl ?_
      refine v_aload_n dX6_commonWord_39 rfl 0 rfl ?_
      refine gf_X6_commonStart kc38 q205 dX6_commonWord_40 ?_
      refine v_aload_n dX6_commonWord_43 rfl 0 rfl ?_
      refine gf_X6_commonEnd kc38 q206 dX6_commonWord_44 ?_
      refine v_ldcS (i := 2) (by decide) rfl rfl rfl dX6_commonWord_47 ?_
      refine v_callVi (q := 1) (ci := 4) (C := RX4) (T := TX4) (NN := 2) (As := [.int (m2 38 4), .int (m2 38 5), .ref (eK E 2)]) (rest := []) (c_X4_spells l E N 2 (by decide) m2 (m2 38 4) (m2 38 5)) kv_X4_spells kc1 (by decide) rfl q533 ⟨rfl, rfl⟩ ⟨Nat.le_of_ble_eq_true rfl, Nat.le_of_ble_eq_true rfl⟩ ⟨Nat.zero_le _, Nat.zero_le _⟩ rfl rfl (Nat.le_of_ble_eq_true rfl) dX6_commonWord_49 (fun m3 r3 => ?_)
      refine v_if_eq (tgt := 57) dX6_commonWord_52 (by decide) ?_ ?_
      · refine v_aload_n dX6_commonWord_57 rfl 1 rfl ?_
        refine v_aload_n dX6_commonWord_58 rfl 0 rfl ?_
        refine gf_X6_commonStart kc38 q205 dX6_commonWord_59 ?_
        refine v_aload_n dX6_commonWord_62 rfl 0 rfl ?_
        refine gf_X6_commonEnd kc38 q206 dX6_commonWord_63 ?_
        refine v_ldcS (i := 3) (by decide) rfl rfl rfl dX6_commonWord_66 ?_
        refine v_callVi (q := 1) (ci := 4) (C := RX4) (T := TX4) (NN := 2) (As := [.int (m3 38 4), .int (m3 38 5), .ref (eK E 3)]) (rest := []) (c_X4_spells l E N 3 (by decide) m3 (m3 38 4) (m3 38 5)) kv_X4_spells kc1 (by decide) rfl q533 ⟨rfl, rfl⟩ ⟨Nat.le_of_ble_eq_true rfl, Nat.le_of_ble_eq_true rfl⟩ ⟨Nat.zero_le _, Nat.zero_le _⟩ rfl rfl (Nat.le_of_ble_eq_true rfl) dX6_commonWord_68 (fun m4 r4 => ?_)
        refine v_if_eq (tgt := 76) dX6_commonWord_71 (by decide) ?_ ?_
        · refine v_aload_n dX6_commonWord_76 rfl 1 rfl ?_
          refine v_aload_n dX6_commonWord_77 rfl 0 rfl ?_
          refine gf_X6_commonStart kc38 q205 dX6_commonWord_78 ?_
          refine v_aload_n dX6_commonWord_81 rfl 0 rfl ?_
          refine gf_X6_commonEnd kc38 q206 dX6_commonWord_82 ?_
          refine v_ldcS (i := 4) (by decide) rfl rfl rfl dX6_commonWord_85 ?_
          refine v_callVi (q := 1) (ci := 4) (C := RX4) (T := TX4) (NN := 2) (As := [.int (m4 38 4), .int (m4 38 5), .ref (eK E 4)]) (rest := []) (c_X4_spells l E N 4 (by decide) m4 (m4 38 4) (m4 38 5)) kv_X4_spells kc1 (by decide) rfl q533 ⟨rfl, rfl⟩ ⟨Nat.le_of_ble_eq_true rfl, Nat.le_of_ble_eq_true rfl⟩ ⟨Nat.zero_le _, Nat.zero_le _⟩ rfl rfl (Nat.le_of_ble_eq_true rfl) dX6_commonWord_87 (fun m5 r5 => ?_)
          refine v_if_eq (tgt := 95) dX6_commonWord_90 (by decide) ?_ ?_
          · refine v_aload_n dX6_commonWord_95 rfl 1 rfl ?_
            refine v_aload_n dX6_commonWord_96 rfl 0 rfl ?_
            refine gf_X6_commonStart kc38 q205 dX6_commonWord_97 ?_
            refine v_aload_n dX6_commonWord_100 rfl 0 rfl ?_
            refine gf_X6_commonEnd kc38 q206 dX6_commonWord_101 ?_
            refine v_ldcS (i := 5) (by decide) rfl rfl rfl dX6_commonWord_104 ?_
            refine v_callVi (q := 1) (ci := 4) (C := RX4) (T := TX4) (NN := 2) (As := [.int (m5 38 4), .int (m5 38 5), .ref (eK E 5)]) (rest := []) (c_X4_spells l E N 5 (by decide) m5 (m5 38 4) (m5 38 5)) kv_X4_spells kc1 (by decide) rfl q533 ⟨rfl, rfl⟩ ⟨Nat.le_of_ble_eq_true rfl, Nat.le_of_ble_eq_true rfl⟩ ⟨Nat.zero_le _, Nat.zero_le _⟩ rfl rfl (Nat.le_of_ble_eq_true rfl) dX6_commonWord_106 (fun m6 r6 => ?_)
            refine v_if_eq (tgt := 115) dX6_commonWord_109 (by decide) ?_ ?_
            · refine v_aload_n dX6_commonWord_115 rfl 1 rfl ?_
              refine v_aload_n dX6_commonWord_116 rfl 0 rfl ?_
              refine gf_X6_commonStart kc38 q205 dX6_commonWord_117 ?_
              refine v_aload_n dX6_commonWord_120 rfl 0 rfl ?_
              refine gf_X6_commonEnd kc38 q206 dX6_commonWord_121 ?_
              refine v_ldcS (i := 6) (by decide) rfl rfl rfl dX6_commonWord_124 ?_
              refine v_callVi (q := 1) (ci := 4) (C := RX4) (T := TX4) (NN := 2) (As := [.int (m6 38 4), .int (m6 38 5), .ref (eK E 6)]) (rest := []) (c_X4_spells l E N 6 (by decide) m6 (m6 38 4) (m6 38 5)) kv_X4_spells kc1 (by decide) rfl q533 ⟨rfl, rfl⟩ ⟨Nat.le_of_ble_eq_true rfl, Nat.le_of_ble_eq_true rfl⟩ ⟨Nat.zero_le _, Nat.zero_le _⟩ rfl rfl (Nat.le_of_ble_eq_true rfl) dX6_commonWord_126 (fun m7 r7 => ?_)
              refine v_if_eq (tgt := 137) dX6_commonWord_129 (by decide) ?_ ?_
              · refine v_iconst (v := 0) dX6_commonWord_137 rfl ?_
                exact v_iret dX6_commonWord_138
              · refine v_bipush (v := 7) dX6_commonWord_132 rfl ?_
                refine v_goto (tgt := 138) dX6_commonWord_134 (by decide) ?_
                exact v_iret dX6_commonWord_138
            · refine v_bipush (v := 6) dX6_commonWord_112 rfl ?_
              exact v_iret dX6_commonWord_114
          · refine v_iconst (v := 5) dX6_commonWord_93 rfl ?_
            exact v_iret dX6_commonWord_94
        · refine v_iconst (v := 4) dX6_commonWord_74 rfl ?_
          exact v_iret dX6_commonWord_75
      · refine v_iconst (v := 3) dX6_commonWord_55 rfl ?_
        exact v_iret dX6_commonWord_56
    · refine v_iconst (v := 2) dX6_commonWord_36 rfl ?_
      exact v_iret dX6_commonWord_37
  · refine v_iconst (v := 1) dX6_commonWord_17 rfl ?_
    exact v_iret dX6_commonWord_18

def rm_X8_hasForm : Room := { frames := 0, cells := 0, slots := 0, locals := 0 }
def f_X8_hasForm_44 (m0 : Mem) (x1 : Int32) : Option (Mem × Int32) := if x1 = 0 then (some (m0, 1)) else (some (m0, 0))
theorem w_X8_hasForm_44 (l : Launch) (E : EnvT) (m0 : Mem) (x1 : Int32) : V l E RX8 cX8_hasForm 2 (some .boolean) (rm_X8_hasForm) 0 0 (Zm E) rvI (f_X8_hasForm_44 m0 x1) m0 44 [(1, .int x1)] [] := by
  unfold f_X8_hasForm_44
  refine v_iload_n dX8_hasForm_44 rfl 0 rfl ?_
  refine v_if_ne (tgt := 52) dX8_hasForm_45 (by decide) ?_ ?_
  · refine v_iconst (v := 0) dX8_hasForm_52 rfl ?_
    exact v_zret rfl dX8_hasForm_53
  · refine v_iconst (v := 1) dX8_hasForm_48 rfl ?_
    refine v_goto (tgt := 53) dX8_hasForm_49 (by decide) ?_
    exact v_zret rfl dX8_hasForm_53
def f_X8_hasForm (m0 : Mem) (x0 : Int32) (x1 : Int32) : Option (Mem × Int32) := if x0 = 1 then (f_X8_hasForm_44 m0 x1) else (if x0 = 2 then (some (m0, 1)) else (if x0 = 3 then (some (m0, 1)) else (if x0 = 4 then (gd (isB x1) (some (m0, x1))) else (if x0 = 5 then (gd (isB x1) (some (m0, x1))) else (if x0 = 6 then (some (m0, 1)) else (if x0 = 7 then (f_X8_hasForm_44 m0 x1) else (some (m0, 0))))))))
theorem c_X8_hasForm (l : Launch) (E : EnvT) (m0 : Mem) (x0 : Int32) (x1 : Int32) : CT l E yX8_hasForm cX8_hasForm 2 (some .boolean) (rm_X8_hasForm) rvI (f_X8_hasForm m0 x0 x1) [.int x0, .int x1] m0 := by
  refine CT.ofV (own := RX8) (by decide) rfl (Nat.le_of_ble_eq_true rfl) ?_
  show V l E RX8 cX8_hasForm 2 (some .boolean) (rm_X8_hasForm) 0 0 (Zm E) rvI _ m0 0 [(0, .int x0), (1, .int x1)] []
  unfold f_X8_hasForm
  refine v_iload_n dX8_hasForm_0 rfl 0 rfl ?_
  refine v_tcase (k := 1) (tgt := 44) dX8_hasForm_1 (by decide) (by decide) rfl (by decide) ?_ (fun n1_0 => ?_)
  · refine v_sub [1] rfl ?_
    exact w_X8_hasForm_44 l E m0 x1
  refine v_tcase (k := 2) (tgt := 56) dX8_hasForm_1 (by decide) (by decide) rfl (by decide) ?_ (fun n1_1 => ?_)
  · refine v_iconst (v := 1) dX8_hasForm_56 rfl ?_
    exact v_zret rfl dX8_hasForm_57
  refine v_tcase (k := 3) (tgt := 56) dX8_hasForm_1 (by decide) (by decide) rfl (by decide) ?_ (fun n1_2 => ?_)
  · refine v_iconst (v := 1) dX8_hasForm_56 rfl ?_
    exact v_zret rfl dX8_hasForm_57
  refine v_tcase (k := 4) (tgt := 54) dX8_hasForm_1 (by decide) (by decide) rfl (by decide) ?_ (fun n1_3 => ?_)
  · refine v_iload_n dX8_hasForm_54 rfl 1 rfl ?_
    refine v_gd (fun g55 => ?_)
    exact v_zret g55 dX8_hasForm_55
  refine v_tcase (k := 5) (tgt := 54) dX8_hasForm_1 (by decide) (by decide) rfl (by decide) ?_ (fun n1_4 => ?_)
  · refine v_iload_n dX8_hasForm_54 rfl 1 rfl ?_
    refine v_gd (fun g55 => ?_)
    exact v_zret g55 dX8_hasForm_55
  refine v_tcase (k := 6) (tgt := 56) dX8_hasForm_1 (by decide) (by decide) rfl (by decide) ?_ (fun n1_5 => ?_)
  · refine v_iconst (v := 1) dX8_hasForm_56 rfl ?_
    exact v_zret rfl dX8_hasForm_57
  refine v_tcase (k := 7) (tgt := 44) dX8_hasForm_1 (by decide) (by decide) rfl (by decide) ?_ (fun n1_6 => ?_)
  · refine v_sub [1] rfl ?_
    exact w_X8_hasForm_44 l E m0 x1
  refine v_tout (tgt := 58) dX8_hasForm_1 (by have en1_0 := lv_neT (a := 1) n1_0 rfl; have en1_1 := lv_neT (a := 2) n1_1 rfl; have en1_2 := lv_neT (a := 3) n1_2 rfl; have en1_3 := lv_neT (a := 4) n1_3 rfl; have en1_4 := lv_neT (a := 5) n1_4 rfl; have en1_5 := lv_neT (a := 6) n1_5 rfl; have en1_6 := lv_neT (a := 7) n1_6 rfl; omega) (by decide) ?_
  refine v_iconst (v := 0) dX8_hasForm_58 rfl ?_
  exact v_zret rfl dX8_hasForm_59

def rm_X6_valueFault : Room := { frames := 0, cells := 0, slots := 0, locals := 0 }
def f_X6_valueFault_31 (m0 : Mem) (x2 : Int32) : Option (Mem × Int32) := if x2 = 0 then (some (m0, 0)) else (if (m0 38 7) = 0 then (some (m0, (-109))) else (some (m0, 0)))
theorem w_X6_valueFault_31 (l : Launch) (E : EnvT) (m0 : Mem) (x2 : Int32) : V l E RX6 cX6_valueFault 3 (some .int) (rm_X6_valueFault) 0 0 (Zm E) rvI (f_X6_valueFault_31 m0 x2) m0 31 [(0, .ref (eAd E 38)), (2, .int x2)] [] := by
  unfold f_X6_valueFault_31
  refine v_iload_n dX6_valueFault_31 rfl 1 rfl ?_
  refine v_if_eq (tgt := 47) dX6_valueFault_32 (by decide) ?_ ?_
  · refine v_iconst (v := 0) dX6_valueFault_47 rfl ?_
    exact v_iret dX6_valueFault_48
  · refine v_aload_n dX6_valueFault_35 rfl 0 rfl ?_
    refine gf_X6_hasValue kc38 q209 dX6_valueFault_36 ?_
    refine v_if_ne (tgt := 47) dX6_valueFault_39 (by decide) ?_ ?_
    · refine v_iconst (v := 0) dX6_valueFault_47 rfl ?_
      exact v_iret dX6_valueFault_48
    · refine v_bipush (v := (-109)) dX6_valueFault_42 rfl ?_
      refine v_goto (tgt := 48) dX6_valueFault_44 (by decide) ?_
      exact v_iret dX6_valueFault_48
def f_X6_valueFault_16 (m0 : Mem) (s0 : Int32) : Option (Mem × Int32) := if (m0 38 7) = 0 then (f_X6_valueFault_31 m0 s0) else (if s0 = 0 then (some (m0, (-108))) else (f_X6_valueFault_31 m0 s0))
theorem w_X6_valueFault_16 (l : Launch) (E : EnvT) (m0 : Mem) (s0 : Int32) : V l E RX6 cX6_valueFault 3 (some .int) (rm_X6_valueFault) 0 0 (Zm E) rvI (f_X6_valueFault_16 m0 s0) m0 16 [(0, .ref (eAd E 38))] [.int s0] := by
  unfold f_X6_valueFault_16
  refine v_istore_n (lv' := [(2, .int s0), (0, .ref (eAd E 38))]) dX6_valueFault_16 rfl (Nat.le_of_ble_eq_true rfl) rfl ?_
  refine v_aload_n dX6_valueFault_17 rfl 1 rfl ?_
  refine gf_X6_hasValue kc38 q209 dX6_valueFault_18 ?_
  refine v_if_eq (tgt := 31) dX6_valueFault_21 (by decide) ?_ ?_
  · refine v_sub [1, 0] rfl ?_
    exact w_X6_valueFault_31 l E m0 s0
  · refine v_iload_n dX6_valueFault_24 rfl 0 rfl ?_
    refine v_if_ne (tgt := 31) dX6_valueFault_25 (by decide) ?_ ?_
    · refine v_sub [1, 0] rfl ?_
      exact w_X6_valueFault_31 l E m0 s0
    · refine v_bipush (v := (-108)) dX6_valueFault_28 rfl ?_
      exact v_iret dX6_valueFault_30
def f_X6_valueFault_15 (m0 : Mem) : Option (Mem × Int32) := (f_X6_valueFault_16 m0 0)
theorem w_X6_valueFault_15 (l : Launch) (E : EnvT) (m0 : Mem) : V l E RX6 cX6_valueFault 3 (some .int) (rm_X6_valueFault) 0 0 (Zm E) rvI (f_X6_valueFault_15 m0) m0 15 [(0, .ref (eAd E 38))] [] := by
  unfold f_X6_valueFault_15
  refine v_iconst (v := 0) dX6_valueFault_15 rfl ?_
  exact w_X6_valueFault_16 l E m0 0
def f_X6_valueFault (m0 : Mem) (x1 : Int32) : Option (Mem × Int32) := if x1 = 0 then (f_X6_valueFault_15 m0) else (if (m0 38 6) = 0 then (f_X6_valueFault_16 m0 1) else (f_X6_valueFault_15 m0))
theorem c_X6_valueFault (l : Launch) (E : EnvT) (m0 : Mem) (x1 : Int32) : CT l E yX6_valueFault cX6_valueFault 3 (some .int) (rm_X6_valueFault) rvI (f_X6_valueFault m0 x1) [.ref (eAd E 38), .int x1] m0 := by
  refine CT.ofV (own := RX6) (by decide) rfl (Nat.le_of_ble_eq_true rfl) ?_
  show V l E RX6 cX6_valueFault 3 (some .int) (rm_X6_valueFault) 0 0 (Zm E) rvI _ m0 0 [(0, .ref (eAd E 38)), (1, .int x1)] []
  unfold f_X6_valueFault
  refine v_iload_n dX6_valueFault_0 rfl 1 rfl ?_
  refine v_if_eq (tgt := 15) dX6_valueFault_1 (by decide) ?_ ?_
  · refine v_sub [0] rfl ?_
    exact w_X6_valueFault_15 l E m0
  · refine v_aload_n dX6_valueFault_4 rfl 0 rfl ?_
    refine gf_X6_isQuestion kc38 q207 dX6_valueFault_5 ?_
    refine v_if_ne (tgt := 15) dX6_valueFault_8 (by decide) ?_ ?_
    · refine v_sub [0] rfl ?_
      exact w_X6_valueFault_15 l E m0
    · refine v_iconst (v := 1) dX6_valueFault_11 rfl ?_
      refine v_goto (tgt := 16) dX6_valueFault_12 (by decide) ?_
      refine v_sub [0] rfl ?_
      exact w_X6_valueFault_16 l E m0 1

def rm_X3_takeEvents : Room := { frames := 0, cells := 0, slots := 0, locals := 0 }
def f_X3_takeEvents (k0 : Nat) (m0 : Mem) : Option (Mem × Int32) := lm (up m0 k0 8 0) (fun m1 => some (m1, (m0 k0 8)))
theorem c_X3_takeEvents (l : Launch) (E : EnvT) (k0 : Nat) (hk0 : isSt k0 = true) (m0 : Mem) : CT l E yX3_takeEvents cX3_takeEvents 2 (some .int) (rm_X3_takeEvents) rvI (f_X3_takeEvents k0 m0) [.ref (eAd E k0)] m0 := by
  refine CT.ofV (own := RX3) (by decide) rfl (Nat.le_of_ble_eq_true rfl) ?_
  show V l E RX3 cX3_takeEvents 2 (some .int) (rm_X3_takeEvents) 0 0 (Zm E) rvI _ m0 0 [(0, .ref (eAd E k0))] []
  unfold f_X3_takeEvents
  refine v_aload_n dX3_takeEvents_0 rfl 0 rfl ?_
  refine gf_X3_events (kst hk0) q270 dX3_takeEvents_1 ?_
  refine v_istore_n (lv' := [(1, .int (m0 k0 8)), (0, .ref (eAd E k0))]) dX3_takeEvents_4 rfl (Nat.le_of_ble_eq_true rfl) rfl ?_
  refine v_aload_n dX3_takeEvents_5 rfl 1 rfl ?_
  refine v_iconst (v := 0) dX3_takeEvents_6 rfl ?_
  refine pf_X3_events (kst hk0) q270 dX3_takeEvents_7 (fun m1 => ?_)
  refine v_iload_n dX3_takeEvents_10 rfl 0 rfl ?_
  exact v_iret dX3_takeEvents_11

def rm_X3_sum : Room := { frames := 0, cells := 0, slots := 0, locals := 0 }
def f_X3_sum_66 (k0 : Nat) (m0 : Mem) (x1 : Int32) : Option (Mem × Int32) := if (x1 &&& (m0 k0 10)) = 0 then (some (m0, x1)) else (some (m0, (x1 ||| 64)))
theorem w_X3_sum_66 (l : Launch) (E : EnvT) (k0 : Nat) (hk0 : isSt k0 = true) (m0 : Mem) (x1 : Int32) : V l E RX3 cX3_sum 2 (some .int) (rm_X3_sum) 0 0 (Zm E) rvI (f_X3_sum_66 k0 m0 x1) m0 66 [(0, .ref (eAd E k0)), (1, .int x1)] [] := by
  unfold f_X3_sum_66
  refine v_iload_n dX3_sum_66 rfl 1 rfl ?_
  refine v_aload_n dX3_sum_67 rfl 0 rfl ?_
  refine gf_X3_serviceMask (kst hk0) q272 dX3_sum_68 ?_
  refine v_iand dX3_sum_71 ?_
  refine v_if_eq (tgt := 82) dX3_sum_72 (by decide) ?_ ?_
  · refine v_iload_n dX3_sum_82 rfl 1 rfl ?_
    exact v_iret dX3_sum_83
  · refine v_iload_n dX3_sum_75 rfl 1 rfl ?_
    refine v_bipush (v := 64) dX3_sum_76 rfl ?_
    refine v_ior dX3_sum_78 ?_
    refine v_goto (tgt := 83) dX3_sum_79 (by decide) ?_
    exact v_iret dX3_sum_83
def f_X3_sum_48 (k0 : Nat) (m0 : Mem) (x1 : Int32) : Option (Mem × Int32) := if ((m0 k0 12) &&& (m0 k0 15)) = 0 then (f_X3_sum_66 k0 m0 x1) else (f_X3_sum_66 k0 m0 (x1 ||| 128))
theorem w_X3_sum_48 (l : Launch) (E : EnvT) (k0 : Nat) (hk0 : isSt k0 = true) (m0 : Mem) (x1 : Int32) : V l E RX3 cX3_sum 2 (some .int) (rm_X3_sum) 0 0 (Zm E) rvI (f_X3_sum_48 k0 m0 x1) m0 48 [(0, .ref (eAd E k0)), (1, .int x1)] [] := by
  unfold f_X3_sum_48
  refine v_aload_n dX3_sum_48 rfl 0 rfl ?_
  refine gf_X3_edges (kst hk0) q275 dX3_sum_49 ?_
  refine v_aload_n dX3_sum_52 rfl 0 rfl ?_
  refine gf_X3_enable (kst hk0) q279 dX3_sum_53 ?_
  refine v_iand dX3_sum_56 ?_
  refine v_if_eq (tgt := 66) dX3_sum_57 (by decide) ?_ ?_
  · exact w_X3_sum_66 l E k0 hk0 m0 x1
  · refine v_iload_n dX3_sum_60 rfl 1 rfl ?_
    refine v_sipush (v := 128) dX3_sum_61 rfl ?_
    refine v_ior dX3_sum_64 ?_
    refine v_istore_n (lv' := [(1, .int (x1 ||| 128)), (0, .ref (eAd E k0))]) dX3_sum_65 rfl (Nat.le_of_ble_eq_true rfl) rfl ?_
    refine v_sub [1, 0] rfl ?_
    exact w_X3_sum_66 l E k0 hk0 m0 (x1 ||| 128)
def f_X3_sum_31 (k0 : Nat) (m0 : Mem) (x1 : Int32) : Option (Mem × Int32) := if ((m0 k0 8) &&& (m0 k0 9)) = 0 then (f_X3_sum_48 k0 m0 x1) else (f_X3_sum_48 k0 m0 (x1 ||| 32))
theorem w_X3_sum_31 (l : Launch) (E : EnvT) (k0 : Nat) (hk0 : isSt k0 = true) (m0 : Mem) (x1 : Int32) : V l E RX3 cX3_sum 2 (some .int) (rm_X3_sum) 0 0 (Zm E) rvI (f_X3_sum_31 k0 m0 x1) m0 31 [(0, .ref (eAd E k0)), (1, .int x1)] [] := by
  unfold f_X3_sum_31
  refine v_aload_n dX3_sum_31 rfl 0 rfl ?_
  refine gf_X3_events (kst hk0) q270 dX3_sum_32 ?_
  refine v_aload_n dX3_sum_35 rfl 0 rfl ?_
  refine gf_X3_eventMask (kst hk0) q271 dX3_sum_36 ?_
  refine v_iand dX3_sum_39 ?_
  refine v_if_eq (tgt := 48) dX3_sum_40 (by decide) ?_ ?_
  · exact w_X3_sum_48 l E k0 hk0 m0 x1
  · refine v_iload_n dX3_sum_43 rfl 1 rfl ?_
    refine v_bipush (v := 32) dX3_sum_44 rfl ?_
    refine v_ior dX3_sum_46 ?_
    refine v_istore_n (lv' := [(1, .int (x1 ||| 32)), (0, .ref (eAd E k0))]) dX3_sum_47 rfl (Nat.le_of_ble_eq_true rfl) rfl ?_
    refine v_sub [1, 0] rfl ?_
    exact w_X3_sum_48 l E k0 hk0 m0 (x1 ||| 32)
def f_X3_sum_16 (k0 : Nat) (m0 : Mem) (x1 : Int32) : Option (Mem × Int32) := if (m0 (k0 + 5) 1) ≤ 0 then (f_X3_sum_31 k0 m0 x1) else (f_X3_sum_31 k0 m0 (x1 ||| 16))
theorem w_X3_sum_16 (l : Launch) (E : EnvT) (k0 : Nat) (hk0 : isSt k0 = true) (m0 : Mem) (x1 : Int32) : V l E RX3 cX3_sum 2 (some .int) (rm_X3_sum) 0 0 (Zm E) rvI (f_X3_sum_16 k0 m0 x1) m0 16 [(0, .ref (eAd E k0)), (1, .int x1)] [] := by
  unfold f_X3_sum_16
  refine v_aload_n dX3_sum_16 rfl 0 rfl ?_
  refine gf_X3_answers (kst hk0) q264 dX3_sum_17 ?_
  refine gf_X2_count (kst5 hk0) q248 dX3_sum_20 ?_
  refine v_if_le (tgt := 31) dX3_sum_23 (by decide) ?_ ?_
  · exact w_X3_sum_31 l E k0 hk0 m0 x1
  · refine v_iload_n dX3_sum_26 rfl 1 rfl ?_
    refine v_bipush (v := 16) dX3_sum_27 rfl ?_
    refine v_ior dX3_sum_29 ?_
    refine v_istore_n (lv' := [(1, .int (x1 ||| 16)), (0, .ref (eAd E k0))]) dX3_sum_30 rfl (Nat.le_of_ble_eq_true rfl) rfl ?_
    refine v_sub [1, 0] rfl ?_
    exact w_X3_sum_31 l E k0 hk0 m0 (x1 ||| 16)
def f_X3_sum (k0 : Nat) (m0 : Mem) : Option (Mem × Int32) := if (m0 (k0 + 7) 1) ≤ 0 then (f_X3_sum_16 k0 m0 0) else (f_X3_sum_16 k0 m0 (0 ||| 4))
theorem c_X3_sum (l : Launch) (E : EnvT) (k0 : Nat) (hk0 : isSt k0 = true) (m0 : Mem) : CT l E yX3_sum cX3_sum 2 (some .int) (rm_X3_sum) rvI (f_X3_sum k0 m0) [.ref (eAd E k0)] m0 := by
  refine CT.ofV (own := RX3) (by decide) rfl (Nat.le_of_ble_eq_true rfl) ?_
  show V l E RX3 cX3_sum 2 (some .int) (rm_X3_sum) 0 0 (Zm E) rvI _ m0 0 [(0, .ref (eAd E k0))] []
  unfold f_X3_sum
  refine v_iconst (v := 0) dX3_sum_0 rfl ?_
  refine v_istore_n (lv' := [(1, .int 0), (0, .ref (eAd E k0))]) dX3_sum_1 rfl (Nat.le_of_ble_eq_true rfl) rfl ?_
  refine v_aload_n dX3_sum_2 rfl 1 rfl ?_
  refine gf_X3_faults (kst hk0) q266 dX3_sum_3 ?_
  refine gf_X2_count (kst7 hk0) q248 dX3_sum_6 ?_
  refine v_if_le (tgt := 16) dX3_sum_9 (by decide) ?_ ?_
  · refine v_sub [1, 0] rfl ?_
    exact w_X3_sum_16 l E k0 hk0 m0 0
  · refine v_iload_n dX3_sum_12 rfl 0 rfl ?_
    refine v_iconst (v := 4) dX3_sum_13 rfl ?_
    refine v_ior dX3_sum_14 ?_
    refine v_istore_n (lv' := [(1, .int (0 ||| 4)), (0, .ref (eAd E k0))]) dX3_sum_15 rfl (Nat.le_of_ble_eq_true rfl) rfl ?_
    refine v_sub [1, 0] rfl ?_
    exact w_X3_sum_16 l E k0 hk0 m0 (0 ||| 4)

def rm_X3_commonAnswer : Room := { frames := 1, cells := 0, slots := 0, locals := 21 }
def f_X3_commonAnswer (k0 : Nat) (m0 : Mem) (x1 : Int32) : Option (Mem × Int32) := if x1 = 2 then (some (m0, (m0 k0 9))) else (if x1 = 3 then (some (m0, (m0 k0 10))) else (if x1 = 4 then (bm (f_X3_takeEvents k0 m0) (fun m1 r1 => some (m1, r1))) else (if x1 = 5 then (bm (f_X3_sum k0 m0) (fun m2 r2 => some (m2, r2))) else (if (m0 (k0 + 9) 1) = 0 then (some (m0, 1)) else (some (m0, 0))))))
theorem c_X3_commonAnswer (l : Launch) (E : EnvT) (k0 : Nat) (hk0 : isSt k0 = true) (m0 : Mem) (x1 : Int32) : CT l E yX3_commonAnswer cX3_commonAnswer 2 (some .int) (rm_X3_commonAnswer) rvI (f_X3_commonAnswer k0 m0 x1) [.ref (eAd E k0), .int x1] m0 := by
  refine CT.ofV (own := RX3) (by decide) rfl (Nat.le_of_ble_eq_true rfl) ?_
  show V l E RX3 cX3_commonAnswer 2 (some .int) (rm_X3_commonAnswer) 0 0 (Zm E) rvI _ m0 0 [(0, .ref (eAd E k0)), (1, .int x1)] []
  unfold f_X3_commonAnswer
  refine v_iload_n dX3_commonAnswer_0 rfl 1 rfl ?_
  refine v_tcase (k := 2) (tgt := 32) dX3_commonAnswer_1 (by decide) (by decide) rfl (by decide) ?_ (fun n1_0 => ?_)
  · refine v_aload_n dX3_commonAnswer_32 rfl 0 rfl ?_
    refine gf_X3_eventMask (kst hk0) q271 dX3_commonAnswer_33 ?_
    exact v_iret dX3_commonAnswer_36
  refine v_tcase (k := 3) (tgt := 37) dX3_commonAnswer_1 (by decide) (by decide) rfl (by decide) ?_ (fun n1_1 => ?_)
  · refine v_aload_n dX3_commonAnswer_37 rfl 0 rfl ?_
    refine gf_X3_serviceMask (kst hk0) q272 dX3_commonAnswer_38 ?_
    exact v_iret dX3_commonAnswer_41
  refine v_tcase (k := 4) (tgt := 42) dX3_commonAnswer_1 (by decide) (by decide) rfl (by decide) ?_ (fun n1_2 => ?_)
  · refine v_aload_n dX3_commonAnswer_42 rfl 0 rfl ?_
    refine v_callVi (q := k0) (ci := 3) (C := RX3) (T := TX3) (NN := 17) (As := []) (rest := []) (c_X3_takeEvents l E k0 hk0 m0) kv_X3_takeEvents (kst hk0) (by decide) rfl q621 ⟨rfl, rfl⟩ ⟨Nat.le_of_ble_eq_true rfl, Nat.le_of_ble_eq_true rfl⟩ ⟨Nat.zero_le _, Nat.zero_le _⟩ rfl rfl (Nat.le_of_ble_eq_true rfl) dX3_commonAnswer_43 (fun m1 r1 => ?_)
    exact v_iret dX3_commonAnswer_46
  refine v_tcase (k := 5) (tgt := 47) dX3_commonAnswer_1 (by decide) (by decide) rfl (by decide) ?_ (fun n1_3 => ?_)
  · refine v_aload_n dX3_commonAnswer_47 rfl 0 rfl ?_
    refine v_callVi (q := k0) (ci := 3) (C := RX3) (T := TX3) (NN := 17) (As := []) (rest := []) (c_X3_sum l E k0 hk0 m0) kv_X3_sum (kst hk0) (by decide) rfl q625 ⟨rfl, rfl⟩ ⟨Nat.le_of_ble_eq_true rfl, Nat.le_of_ble_eq_true rfl⟩ ⟨Nat.zero_le _, Nat.zero_le _⟩ rfl rfl (Nat.le_of_ble_eq_true rfl) dX3_commonAnswer_48 (fun m2 r2 => ?_)
    exact v_iret dX3_commonAnswer_51
  refine v_tout (tgt := 52) dX3_commonAnswer_1 (by have en1_0 := lv_neT (a := 2) n1_0 rfl; have en1_1 := lv_neT (a := 3) n1_1 rfl; have en1_2 := lv_neT (a := 4) n1_2 rfl; have en1_3 := lv_neT (a := 5) n1_3 rfl; omega) (by decide) ?_
  refine v_aload_n dX3_commonAnswer_52 rfl 0 rfl ?_
  refine gf_X3_pending (kst hk0) q268 dX3_commonAnswer_53 ?_
  refine gf_X2_count (kst9 hk0) q248 dX3_commonAnswer_56 ?_
  refine v_if_ne (tgt := 66) dX3_commonAnswer_59 (by decide) ?_ ?_
  · refine v_iconst (v := 0) dX3_commonAnswer_66 rfl ?_
    exact v_iret dX3_commonAnswer_67
  · refine v_iconst (v := 1) dX3_commonAnswer_62 rfl ?_
    refine v_goto (tgt := 67) dX3_commonAnswer_63 (by decide) ?_
    exact v_iret dX3_commonAnswer_67

def rm_X2_add : Room := { frames := 0, cells := 0, slots := 0, locals := 0 }
def f_X2_add (k0 : Nat) (m0 : Mem) (x1 : Int32) : Option (Mem × Int32) := if (m0 k0 1) < 0 then (some (m0, 0)) else (if (m0 k0 1) < (Int32.ofNat (ln (k0 + 1))) then (gd (inR (m0 k0 1) (ln (k0 + 1))) (lm (up m0 (k0 + 1) (ix (m0 k0 1)) x1) (fun m1 => lm (up m1 k0 1 ((m1 k0 1) + 1)) (fun m2 => some (m2, 1))))) else (some (m0, 0)))
theorem c_X2_add (l : Launch) (E : EnvT) (k0 : Nat) (hk0 : kd k0 = 2) (m0 : Mem) (x1 : Int32) : CT l E yX2_add cX2_add 2 (some .boolean) (rm_X2_add) rvI (f_X2_add k0 m0 x1) [.ref (eAd E k0), .int x1] m0 := by
  refine CT.ofV (own := RX2) (by decide) rfl (Nat.le_of_ble_eq_true rfl) ?_
  show V l E RX2 cX2_add 2 (some .boolean) (rm_X2_add) 0 0 (Zm E) rvI _ m0 0 [(0, .ref (eAd E k0)), (1, .int x1)] []
  unfold f_X2_add
  refine v_aload_n dX2_add_0 rfl 0 rfl ?_
  refine gf_X2_count hk0 q247 dX2_add_1 ?_
  refine v_if_lt (tgt := 19) dX2_add_4 (by decide) ?_ ?_
  · refine v_iconst (v := 0) dX2_add_19 rfl ?_
    exact v_zret rfl dX2_add_20
  · refine v_aload_n dX2_add_7 rfl 0 rfl ?_
    refine gf_X2_count hk0 q247 dX2_add_8 ?_
    refine v_aload_n dX2_add_11 rfl 0 rfl ?_
    refine gf_X2_items hk0 q246 dX2_add_12 ?_
    refine v_alenI (v := (Int32.ofNat (ln (k0 + 1)))) (krow hk0) rfl dX2_add_15 ?_
    refine v_icmp_lt (tgt := 21) dX2_add_16 (by decide) ?_ ?_
    · refine v_aload_n dX2_add_21 rfl 0 rfl ?_
      refine gf_X2_items hk0 q246 dX2_add_22 ?_
      refine v_aload_n dX2_add_25 rfl 0 rfl ?_
      refine gf_X2_count hk0 q247 dX2_add_26 ?_
      refine v_iload_n dX2_add_29 rfl 1 rfl ?_
      refine v_gd (fun g30 => ?_)
      refine v_iast (krow hk0) rfl g30 dX2_add_30 (fun m1 => ?_)
      refine v_aload_n dX2_add_31 rfl 0 rfl ?_
      refine v_dup dX2_add_32 rfl ?_
      refine gf_X2_count hk0 q247 dX2_add_33 ?_
      refine v_iconst (v := 1) dX2_add_36 rfl ?_
      refine v_iadd dX2_add_37 ?_
      refine pf_X2_count hk0 q247 dX2_add_38 (fun m2 => ?_)
      refine v_iconst (v := 1) dX2_add_41 rfl ?_
      exact v_zret rfl dX2_add_42
    · refine v_iconst (v := 0) dX2_add_19 rfl ?_
      exact v_zret rfl dX2_add_20

def rm_X3_eventOf : Room := { frames := 0, cells := 0, slots := 0, locals := 0 }
def f_X3_eventOf (m0 : Mem) (x0 : Int32) : Option (Mem × Int32) := if ((-x0) / 100) = 1 then (some (m0, 32)) else (if ((-x0) / 100) = 2 then (some (m0, 16)) else (if ((-x0) / 100) = 3 then (some (m0, 8)) else (some (m0, 4))))
theorem c_X3_eventOf (l : Launch) (E : EnvT) (m0 : Mem) (x0 : Int32) : CT l E yX3_eventOf cX3_eventOf 1 (some .int) (rm_X3_eventOf) rvI (f_X3_eventOf m0 x0) [.int x0] m0 := by
  refine CT.ofV (own := RX3) (by decide) rfl (Nat.le_of_ble_eq_true rfl) ?_
  show V l E RX3 cX3_eventOf 1 (some .int) (rm_X3_eventOf) 0 0 (Zm E) rvI _ m0 0 [(0, .int x0)] []
  unfold f_X3_eventOf
  refine v_iload_n dX3_eventOf_0 rfl 0 rfl ?_
  refine v_ineg dX3_eventOf_1 ?_
  refine v_bipush (v := 100) dX3_eventOf_2 rfl ?_
  refine v_idiv dX3_eventOf_4 (by decide) ?_
  refine v_tcase (k := 1) (tgt := 32) dX3_eventOf_5 (by decide) (by decide) rfl (by decide) ?_ (fun n5_0 => ?_)
  · refine v_bipush (v := 32) dX3_eventOf_32 rfl ?_
    exact v_iret dX3_eventOf_34
  refine v_tcase (k := 2) (tgt := 35) dX3_eventOf_5 (by decide) (by decide) rfl (by decide) ?_ (fun n5_1 => ?_)
  · refine v_bipush (v := 16) dX3_eventOf_35 rfl ?_
    exact v_iret dX3_eventOf_37
  refine v_tcase (k := 3) (tgt := 38) dX3_eventOf_5 (by decide) (by decide) rfl (by decide) ?_ (fun n5_2 => ?_)
  · refine v_bipush (v := 8) dX3_eventOf_38 rfl ?_
    exact v_iret dX3_eventOf_40
  refine v_tout (tgt := 41) dX3_eventOf_5 (by have en5_0 := lv_neT (a := 1) n5_0 rfl; have en5_1 := lv_neT (a := 2) n5_1 rfl; have en5_2 := lv_neT (a := 3) n5_2 rfl; omega) (by decide) ?_
  refine v_iconst (v := 4) dX3_eventOf_41 rfl ?_
  exact v_iret dX3_eventOf_42

def rm_X2_changeLast : Room := { frames := 0, cells := 0, slots := 0, locals := 0 }
def f_X2_changeLast (k0 : Nat) (m0 : Mem) (x1 : Int32) : Option (Mem × Unit) := if (m0 k0 1) ≤ 0 then (some (m0, ())) else (if (Int32.ofNat (ln (k0 + 1))) < (m0 k0 1) then (some (m0, ())) else (gd (inR ((m0 k0 1) - 1) (ln (k0 + 1))) (lm (up m0 (k0 + 1) (ix ((m0 k0 1) - 1)) x1) (fun m1 => some (m1, ())))))
theorem c_X2_changeLast (l : Launch) (E : EnvT) (k0 : Nat) (hk0 : kd k0 = 2) (m0 : Mem) (x1 : Int32) : CT l E yX2_changeLast cX2_changeLast 2 none (rm_X2_changeLast) rvV (f_X2_changeLast k0 m0 x1) [.ref (eAd E k0), .int x1] m0 := by
  refine CT.ofV (own := RX2) (by decide) rfl (Nat.le_of_ble_eq_true rfl) ?_
  show V l E RX2 cX2_changeLast 2 none (rm_X2_changeLast) 0 0 (Zm E) rvV _ m0 0 [(0, .ref (eAd E k0)), (1, .int x1)] []
  unfold f_X2_changeLast
  refine v_aload_n dX2_changeLast_0 rfl 0 rfl ?_
  refine gf_X2_count hk0 q247 dX2_changeLast_1 ?_
  refine v_if_le (tgt := 31) dX2_changeLast_4 (by decide) ?_ ?_
  · exact v_vret dX2_changeLast_31
  · refine v_aload_n dX2_changeLast_7 rfl 0 rfl ?_
    refine gf_X2_count hk0 q247 dX2_changeLast_8 ?_
    refine v_aload_n dX2_changeLast_11 rfl 0 rfl ?_
    refine gf_X2_items hk0 q246 dX2_changeLast_12 ?_
    refine v_alenI (v := (Int32.ofNat (ln (k0 + 1)))) (krow hk0) rfl dX2_changeLast_15 ?_
    refine v_icmp_gt (tgt := 31) dX2_changeLast_16 (by decide) ?_ ?_
    · exact v_vret dX2_changeLast_31
    · refine v_aload_n dX2_changeLast_19 rfl 0 rfl ?_
      refine gf_X2_items hk0 q246 dX2_changeLast_20 ?_
      refine v_aload_n dX2_changeLast_23 rfl 0 rfl ?_
      refine gf_X2_count hk0 q247 dX2_changeLast_24 ?_
      refine v_iconst (v := 1) dX2_changeLast_27 rfl ?_
      refine v_isub dX2_changeLast_28 ?_
      refine v_iload_n dX2_changeLast_29 rfl 1 rfl ?_
      refine v_gd (fun g30 => ?_)
      refine v_iast (krow hk0) rfl g30 dX2_changeLast_30 (fun m1 => ?_)
      exact v_vret dX2_changeLast_31

def rm_X3_raise : Room := { frames := 1, cells := 0, slots := 0, locals := 21 }
def f_X3_raise (k0 : Nat) (m0 : Mem) (x1 : Int32) : Option (Mem × Unit) := bm (f_X3_eventOf m0 x1) (fun m1 r1 => lm (up m1 k0 8 ((m0 k0 8) ||| r1)) (fun m2 => bm (f_X2_add (k0 + 7) m2 x1) (fun m3 r3 => if r3 = 0 then (bm (f_X2_changeLast (k0 + 7) m3 (-350)) (fun m4 _ => lm (up m4 k0 8 ((m4 k0 8) ||| 8)) (fun m5 => some (m5, ())))) else (some (m3, ())))))
theorem c_X3_raise (l : Launch) (E : EnvT) (k0 : Nat) (hk0 : isSt k0 = true) (m0 : Mem) (x1 : Int32) : CT l E yX3_raise cX3_raise 2 none (rm_X3_raise) rvV (f_X3_raise k0 m0 x1) [.ref (eAd E k0), .int x1] m0 := by
  refine CT.ofV (own := RX3) (by decide) rfl (Nat.le_of_ble_eq_true rfl) ?_
  show V l E RX3 cX3_raise 2 none (rm_X3_raise) 0 0 (Zm E) rvV _ m0 0 [(0, .ref (eAd E k0)), (1, .int x1)] []
  unfold f_X3_raise
  refine v_aload_n dX3_raise_0 rfl 0 rfl ?_
  refine v_dup dX3_raise_1 rfl ?_
  refine gf_X3_events (kst hk0) q270 dX3_raise_2 ?_
  refine v_iload_n dX3_raise_5 rfl 1 rfl ?_
  refine v_callSi (As := [.int x1]) (rest := [.int (m0 k0 8), .ref (eAd E k0)]) (c_X3_eventOf l E m0 x1) ks_X3_eventOf q641 ⟨rfl, rfl⟩ ⟨Nat.le_of_ble_eq_true rfl, Nat.le_of_ble_eq_true rfl⟩ ⟨Nat.zero_le _, Nat.zero_le _⟩ rfl rfl (Nat.le_of_ble_eq_true rfl) dX3_raise_6 (fun m1 r1 => ?_)
  refine v_ior dX3_raise_9 ?_
  refine pf_X3_events (kst hk0) q270 dX3_raise_10 (fun m2 => ?_)
  refine v_aload_n dX3_raise_13 rfl 0 rfl ?_
  refine gf_X3_faults (kst hk0) q266 dX3_raise_14 ?_
  refine v_iload_n dX3_raise_17 rfl 1 rfl ?_
  refine v_callVi (q := (k0 + 7)) (ci := 2) (C := RX2) (T := TX2) (NN := 2) (As := [.int x1]) (rest := []) (c_X2_add l E (k0 + 7) (kst7 hk0) m2 x1) kv_X2_add (kst7 hk0) (by decide) rfl q633 ⟨rfl, rfl⟩ ⟨Nat.le_of_ble_eq_true rfl, Nat.le_of_ble_eq_true rfl⟩ ⟨Nat.zero_le _, Nat.zero_le _⟩ rfl rfl (Nat.le_of_ble_eq_true rfl) dX3_raise_18 (fun m3 r3 => ?_)
  refine v_if_ne (tgt := 45) dX3_raise_21 (by decide) ?_ ?_
  · exact v_vret dX3_raise_45
  · refine v_aload_n dX3_raise_24 rfl 0 rfl ?_
    refine gf_X3_faults (kst hk0) q266 dX3_raise_25 ?_
    refine v_sipush (v := (-350)) dX3_raise_28 rfl ?_
    refine v_callVv (q := (k0 + 7)) (ci := 2) (C := RX2) (T := TX2) (NN := 2) (As := [.int (-350)]) (rest := []) (c_X2_changeLast l E (k0 + 7) (kst7 hk0) m3 (-350)) kv_X2_changeLast (kst7 hk0) (by decide) rfl q644 ⟨rfl, rfl⟩ ⟨Nat.le_of_ble_eq_true rfl, Nat.le_of_ble_eq_true rfl⟩ ⟨Nat.zero_le _, Nat.zero_le _⟩ rfl rfl (Nat.le_of_ble_eq_true rfl) dX3_raise_31 (fun m4 _ => ?_)
    refine v_aload_n dX3_raise_34 rfl 0 rfl ?_
    refine v_dup dX3_raise_35 rfl ?_
    refine gf_X3_events (kst hk0) q270 dX3_raise_36 ?_
    refine v_bipush (v := 8) dX3_raise_39 rfl ?_
    refine v_ior dX3_raise_41 ?_
    refine pf_X3_events (kst hk0) q270 dX3_raise_42 (fun m5 => ?_)
    exact v_vret dX3_raise_45

def rm_X3_reply : Room := { frames := 2, cells := 0, slots := 0, locals := 42 }
def f_X3_reply (k0 : Nat) (m0 : Mem) (x1 : Int32) : Option (Mem × Unit) := bm (f_X2_add (k0 + 5) m0 x1) (fun m1 r1 => if r1 = 0 then (bm (f_X3_raise k0 m1 (-430)) (fun m2 _ => some (m2, ()))) else (some (m1, ())))
theorem c_X3_reply (l : Launch) (E : EnvT) (k0 : Nat) (hk0 : isSt k0 = true) (m0 : Mem) (x1 : Int32) : CT l E yX3_reply cX3_reply 2 none (rm_X3_reply) rvV (f_X3_reply k0 m0 x1) [.ref (eAd E k0), .int x1] m0 := by
  refine CT.ofV (own := RX3) (by decide) rfl (Nat.le_of_ble_eq_true rfl) ?_
  show V l E RX3 cX3_reply 2 none (rm_X3_reply) 0 0 (Zm E) rvV _ m0 0 [(0, .ref (eAd E k0)), (1, .int x1)] []
  unfold f_X3_reply
  refine v_aload_n dX3_reply_0 rfl 0 rfl ?_
  refine gf_X3_answers (kst hk0) q264 dX3_reply_1 ?_
  refine v_iload_n dX3_reply_4 rfl 1 rfl ?_
  refine v_callVi (q := (k0 + 5)) (ci := 2) (C := RX2) (T := TX2) (NN := 2) (As := [.int x1]) (rest := []) (c_X2_add l E (k0 + 5) (kst5 hk0) m0 x1) kv_X2_add (kst5 hk0) (by decide) rfl q633 ⟨rfl, rfl⟩ ⟨Nat.le_of_ble_eq_true rfl, Nat.le_of_ble_eq_true rfl⟩ ⟨Nat.zero_le _, Nat.zero_le _⟩ rfl rfl (Nat.le_of_ble_eq_true rfl) dX3_reply_5 (fun m1 r1 => ?_)
  refine v_if_ne (tgt := 18) dX3_reply_8 (by decide) ?_ ?_
  · exact v_vret dX3_reply_18
  · refine v_aload_n dX3_reply_11 rfl 0 rfl ?_
    refine v_sipush (v := (-430)) dX3_reply_12 rfl ?_
    refine v_callVv (q := k0) (ci := 3) (C := RX3) (T := TX3) (NN := 17) (As := [.int (-430)]) (rest := []) (c_X3_raise l E k0 hk0 m1 (-430)) kv_X3_raise (kst hk0) (by decide) rfl q637 ⟨rfl, rfl⟩ ⟨Nat.le_of_ble_eq_true rfl, Nat.le_of_ble_eq_true rfl⟩ ⟨Nat.zero_le _, Nat.zero_le _⟩ rfl rfl (Nat.le_of_ble_eq_true rfl) dX3_reply_15 (fun m2 _ => ?_)
    exact v_vret dX3_reply_18

def rm_X3_clearStatus : Room := { frames := 0, cells := 0, slots := 0, locals := 0 }
def f_X3_clearStatus (k0 : Nat) (m0 : Mem) : Option (Mem × Unit) := lm (up m0 k0 8 0) (fun m1 => lm (up m1 k0 12 0) (fun m2 => lm (up m2 (k0 + 7) 1 0) (fun m3 => lm (up m3 k0 16 0) (fun m4 => some (m4, ())))))
theorem c_X3_clearStatus (l : Launch) (E : EnvT) (k0 : Nat) (hk0 : isSt k0 = true) (m0 : Mem) : CT l E yX3_clearStatus cX3_clearStatus 1 none (rm_X3_clearStatus) rvV (f_X3_clearStatus k0 m0) [.ref (eAd E k0)] m0 := by
  refine CT.ofV (own := RX3) (by decide) rfl (Nat.le_of_ble_eq_true rfl) ?_
  show V l E RX3 cX3_clearStatus 1 none (rm_X3_clearStatus) 0 0 (Zm E) rvV _ m0 0 [(0, .ref (eAd E k0))] []
  unfold f_X3_clearStatus
  refine v_aload_n dX3_clearStatus_0 rfl 0 rfl ?_
  refine v_iconst (v := 0) dX3_clearStatus_1 rfl ?_
  refine pf_X3_events (kst hk0) q270 dX3_clearStatus_2 (fun m1 => ?_)
  refine v_aload_n dX3_clearStatus_5 rfl 0 rfl ?_
  refine v_iconst (v := 0) dX3_clearStatus_6 rfl ?_
  refine pf_X3_edges (kst hk0) q275 dX3_clearStatus_7 (fun m2 => ?_)
  refine v_aload_n dX3_clearStatus_10 rfl 0 rfl ?_
  refine gf_X3_faults (kst hk0) q266 dX3_clearStatus_11 ?_
  refine v_iconst (v := 0) dX3_clearStatus_14 rfl ?_
  refine pf_X2_count (kst7 hk0) q248 dX3_clearStatus_15 (fun m3 => ?_)
  refine v_aload_n dX3_clearStatus_18 rfl 0 rfl ?_
  refine v_iconst (v := 0) dX3_clearStatus_19 rfl ?_
  refine pf_X3_isWaiting (kst hk0) q280 rfl dX3_clearStatus_20 (fun m4 => ?_)
  exact v_vret dX3_clearStatus_23

def rm_X3_tellWhenOver : Room := { frames := 0, cells := 0, slots := 0, locals := 0 }
def f_X3_tellWhenOver (k0 : Nat) (m0 : Mem) : Option (Mem × Unit) := if (m0 (k0 + 9) 1) = 0 then (lm (up m0 k0 8 ((m0 k0 8) ||| 1)) (fun m2 => some (m2, ()))) else (lm (up m0 k0 16 1) (fun m1 => some (m1, ())))
theorem c_X3_tellWhenOver (l : Launch) (E : EnvT) (k0 : Nat) (hk0 : isSt k0 = true) (m0 : Mem) : CT l E yX3_tellWhenOver cX3_tellWhenOver 1 none (rm_X3_tellWhenOver) rvV (f_X3_tellWhenOver k0 m0) [.ref (eAd E k0)] m0 := by
  refine CT.ofV (own := RX3) (by decide) rfl (Nat.le_of_ble_eq_true rfl) ?_
  show V l E RX3 cX3_tellWhenOver 1 none (rm_X3_tellWhenOver) 0 0 (Zm E) rvV _ m0 0 [(0, .ref (eAd E k0))] []
  unfold f_X3_tellWhenOver
  refine v_aload_n dX3_tellWhenOver_0 rfl 0 rfl ?_
  refine gf_X3_pending (kst hk0) q268 dX3_tellWhenOver_1 ?_
  refine gf_X2_count (kst9 hk0) q248 dX3_tellWhenOver_4 ?_
  refine v_if_ne (tgt := 23) dX3_tellWhenOver_7 (by decide) ?_ ?_
  · refine v_aload_n dX3_tellWhenOver_23 rfl 0 rfl ?_
    refine v_iconst (v := 1) dX3_tellWhenOver_24 rfl ?_
    refine pf_X3_isWaiting (kst hk0) q280 rfl dX3_tellWhenOver_25 (fun m1 => ?_)
    exact v_vret dX3_tellWhenOver_28
  · refine v_aload_n dX3_tellWhenOver_10 rfl 0 rfl ?_
    refine v_dup dX3_tellWhenOver_11 rfl ?_
    refine gf_X3_events (kst hk0) q270 dX3_tellWhenOver_12 ?_
    refine v_iconst (v := 1) dX3_tellWhenOver_15 rfl ?_
    refine v_ior dX3_tellWhenOver_16 ?_
    refine pf_X3_events (kst hk0) q270 dX3_tellWhenOver_17 (fun m2 => ?_)
    refine v_goto (tgt := 28) dX3_tellWhenOver_20 (by decide) ?_
    exact v_vret dX3_tellWhenOver_28

def rm_X3_reset : Room := { frames := 3, cells := 0, slots := 0, locals := 68 }
def f_X3_reset_27 (N : Nat) (k0 : Nat) (m0 : Mem) : Option (Mem × Unit) := lm (up m0 (k0 + 9) 1 0) (fun m1 => lm (up m1 k0 16 0) (fun m2 => some (m2, ())))
theorem w_X3_reset_27 (l : Launch) (E : EnvT) (N : Nat) (k0 : Nat) (hk0 : isSt k0 = true) (m0 : Mem) : V l E RX3 cX3_reset 2 none (rm_X3_reset) 0 0 (Zm E) rvV (f_X3_reset_27 N k0 m0) m0 27 [(0, .ref (eAd E k0))] [] := by
  unfold f_X3_reset_27
  refine v_aload_n dX3_reset_27 rfl 0 rfl ?_
  refine gf_X3_pending (kst hk0) q268 dX3_reset_28 ?_
  refine v_iconst (v := 0) dX3_reset_31 rfl ?_
  refine pf_X2_count (kst9 hk0) q248 dX3_reset_32 (fun m1 => ?_)
  refine v_aload_n dX3_reset_35 rfl 0 rfl ?_
  refine v_iconst (v := 0) dX3_reset_36 rfl ?_
  refine pf_X3_isWaiting (kst hk0) q280 rfl dX3_reset_37 (fun m2 => ?_)
  exact v_vret dX3_reset_40
def f_X3_reset_2b (N : Nat) (k0 : Nat) (rec_2 : Mem → Int32 → Option (Mem × Unit)) (m0 : Mem) (x1 : Int32) : Option (Mem × Unit) := if (m0 k0 0) ≤ x1 then (f_X3_reset_27 N k0 m0) else (if 16 ≤ x1 then (f_X3_reset_27 N k0 m0) else (bm (f_X3_lowerNumbers N k0 m0 x1) (fun m1 _ => (rec_2 m1 (x1 + 1)))))
def f_X3_reset_2 (N : Nat) (k0 : Nat) : Nat → Mem → Int32 → Option (Mem × Unit)
  | 0 => fun _ _ => none
  | n + 1 => f_X3_reset_2b N k0 (f_X3_reset_2 N k0 n)
theorem w_X3_reset_2b (l : Launch) (E : EnvT) (N : Nat) (k0 : Nat) (hk0 : isSt k0 = true) (rec_2 : Mem → Int32 → Option (Mem × Unit)) (hrec_2 : ∀ (m0 : Mem) (x1 : Int32), V l E RX3 cX3_reset 2 none (rm_X3_reset) 0 0 (Zm E) rvV (rec_2 m0 x1) m0 2 [(0, .ref (eAd E k0)), (1, .int x1)] []) (m0 : Mem) (x1 : Int32) : V l E RX3 cX3_reset 2 none (rm_X3_reset) 0 0 (Zm E) rvV (f_X3_reset_2b N k0 rec_2 m0 x1) m0 2 [(0, .ref (eAd E k0)), (1, .int x1)] [] := by
  unfold f_X3_reset_2b
  refine v_iload_n dX3_reset_2 rfl 1 rfl ?_
  refine v_aload_n dX3_reset_3 rfl 0 rfl ?_
  refine gf_X3_nodes (kst hk0) q255 dX3_reset_4 ?_
  refine v_icmp_ge (tgt := 27) dX3_reset_7 (by decide) ?_ ?_
  · refine v_sub [0] rfl ?_
    exact w_X3_reset_27 l E N k0 hk0 m0
  · refine v_iload_n dX3_reset_10 rfl 1 rfl ?_
    refine v_bipush (v := 16) dX3_reset_11 rfl ?_
    refine v_icmp_ge (tgt := 27) dX3_reset_13 (by decide) ?_ ?_
    · refine v_sub [0] rfl ?_
      exact w_X3_reset_27 l E N k0 hk0 m0
    · refine v_aload_n dX3_reset_16 rfl 0 rfl ?_
      refine v_iload_n dX3_reset_17 rfl 1 rfl ?_
      refine v_callVv (q := k0) (ci := 3) (C := RX3) (T := TX3) (NN := 17) (As := [.int x1]) (rest := []) (c_X3_lowerNumbers l E N k0 hk0 m0 x1) kv_X3_lowerNumbers (kst hk0) (by decide) rfl q424 ⟨rfl, rfl⟩ ⟨Nat.le_of_ble_eq_true rfl, Nat.le_of_ble_eq_true rfl⟩ ⟨Nat.zero_le _, Nat.zero_le _⟩ rfl rfl (Nat.le_of_ble_eq_true rfl) dX3_reset_18 (fun m1 _ => ?_)
      refine v_iinc (v := (x1 + 1)) (lv' := [(1, .int (x1 + 1)), (0, .ref (eAd E k0))]) dX3_reset_21 1 rfl rfl (Nat.le_of_ble_eq_true rfl) rfl ?_
      refine v_goto (tgt := 2) dX3_reset_24 (by decide) ?_
      refine v_sub [1, 0] rfl ?_
      exact hrec_2 m1 (x1 + 1)
theorem w_X3_reset_2 (l : Launch) (E : EnvT) (N : Nat) (k0 : Nat) (hk0 : isSt k0 = true) : ∀ (n : Nat) (m0 : Mem) (x1 : Int32), V l E RX3 cX3_reset 2 none (rm_X3_reset) 0 0 (Zm E) rvV (f_X3_reset_2 N k0 n m0 x1) m0 2 [(0, .ref (eAd E k0)), (1, .int x1)] [] := by
  intro n
  induction n with
  | zero => intros; exact v_none
  | succ n ih => exact w_X3_reset_2b l E N k0 hk0 _ ih
def f_X3_reset (N : Nat) (k0 : Nat) (m0 : Mem) : Option (Mem × Unit) := (f_X3_reset_2 N k0 N m0 0)
theorem c_X3_reset (l : Launch) (E : EnvT) (N : Nat) (k0 : Nat) (hk0 : isSt k0 = true) (m0 : Mem) : CT l E yX3_reset cX3_reset 2 none (rm_X3_reset) rvV (f_X3_reset N k0 m0) [.ref (eAd E k0)] m0 := by
  refine CT.ofV (own := RX3) (by decide) rfl (Nat.le_of_ble_eq_true rfl) ?_
  show V l E RX3 cX3_reset 2 none (rm_X3_reset) 0 0 (Zm E) rvV _ m0 0 [(0, .ref (eAd E k0))] []
  unfold f_X3_reset
  refine v_iconst (v := 0) dX3_reset_0 rfl ?_
  refine v_istore_n (lv' := [(1, .int 0), (0, .ref (eAd E k0))]) dX3_reset_1 rfl (Nat.le_of_ble_eq_true rfl) rfl ?_
  refine v_sub [1, 0] rfl ?_
  exact w_X3_reset_2 l E N k0 hk0 N m0 0

def rm_X3_setByteMask : Room := { frames := 2, cells := 0, slots := 0, locals := 42 }
def f_X3_setByteMask (k0 : Nat) (m0 : Mem) (x1 : Int32) (x2 : Int32) : Option (Mem × Unit) := bm (f_X8_isWithin m0 x2 0 255) (fun m1 r1 => if r1 = 0 then (bm (f_X3_raise k0 m1 (-222)) (fun m4 _ => some (m4, ()))) else (if x1 = 2 then (lm (up m1 k0 9 x2) (fun m3 => some (m3, ()))) else (lm (up m1 k0 10 x2) (fun m2 => some (m2, ())))))
theorem c_X3_setByteMask (l : Launch) (E : EnvT) (k0 : Nat) (hk0 : isSt k0 = true) (m0 : Mem) (x1 : Int32) (x2 : Int32) : CT l E yX3_setByteMask cX3_setByteMask 3 none (rm_X3_setByteMask) rvV (f_X3_setByteMask k0 m0 x1 x2) [.ref (eAd E k0), .int x1, .int x2] m0 := by
  refine CT.ofV (own := RX3) (by decide) rfl (Nat.le_of_ble_eq_true rfl) ?_
  show V l E RX3 cX3_setByteMask 3 none (rm_X3_setByteMask) 0 0 (Zm E) rvV _ m0 0 [(0, .ref (eAd E k0)), (1, .int x1), (2, .int x2)] []
  unfold f_X3_setByteMask
  refine v_iload_n dX3_setByteMask_0 rfl 2 rfl ?_
  refine v_iconst (v := 0) dX3_setByteMask_1 rfl ?_
  refine v_sipush (v := 255) dX3_setByteMask_2 rfl ?_
  refine v_callSNi (As := [.int x2, .int 0, .int 255]) (rest := []) (c_X8_isWithin l E m0 x2 0 255) ks_X8_isWithin nq432 ⟨rfl, rfl⟩ ⟨Nat.le_of_ble_eq_true rfl, Nat.le_of_ble_eq_true rfl⟩ ⟨Nat.zero_le _, Nat.zero_le _⟩ rfl rfl (Nat.le_of_ble_eq_true rfl) dX3_setByteMask_5 (fun m1 r1 => ?_)
  refine v_if_ne (tgt := 21) dX3_setByteMask_8 (by decide) ?_ ?_
  · refine v_iload_n dX3_setByteMask_21 rfl 1 rfl ?_
    refine v_iconst (v := 2) dX3_setByteMask_22 rfl ?_
    refine v_icmp_ne (tgt := 34) dX3_setByteMask_23 (by decide) ?_ ?_
    · refine v_aload_n dX3_setByteMask_34 rfl 0 rfl ?_
      refine v_iload_n dX3_setByteMask_35 rfl 2 rfl ?_
      refine pf_X3_serviceMask (kst hk0) q272 dX3_setByteMask_36 (fun m2 => ?_)
      exact v_vret dX3_setByteMask_39
    · refine v_aload_n dX3_setByteMask_26 rfl 0 rfl ?_
      refine v_iload_n dX3_setByteMask_27 rfl 2 rfl ?_
      refine pf_X3_eventMask (kst hk0) q271 dX3_setByteMask_28 (fun m3 => ?_)
      refine v_goto (tgt := 39) dX3_setByteMask_31 (by decide) ?_
      exact v_vret dX3_setByteMask_39
  · refine v_aload_n dX3_setByteMask_11 rfl 0 rfl ?_
    refine v_sipush (v := (-222)) dX3_setByteMask_12 rfl ?_
    refine v_callVv (q := k0) (ci := 3) (C := RX3) (T := TX3) (NN := 17) (As := [.int (-222)]) (rest := []) (c_X3_raise l E k0 hk0 m1 (-222)) kv_X3_raise (kst hk0) (by decide) rfl q637 ⟨rfl, rfl⟩ ⟨Nat.le_of_ble_eq_true rfl, Nat.le_of_ble_eq_true rfl⟩ ⟨Nat.zero_le _, Nat.zero_le _⟩ rfl rfl (Nat.le_of_ble_eq_true rfl) dX3_setByteMask_15 (fun m4 _ => ?_)
    refine v_goto (tgt := 39) dX3_setByteMask_18 (by decide) ?_
    exact v_vret dX3_setByteMask_39

def rm_X3_obeyCommon : Room := { frames := 4, cells := 0, slots := 0, locals := 89 }
def f_X3_obeyCommon (N : Nat) (k0 : Nat) (m0 : Mem) (x1 : Int32) (x2 : Int32) : Option (Mem × Unit) := if x1 = 1 then (bm (f_X3_clearStatus k0 m0) (fun m1 _ => some (m1, ()))) else (if x1 = 6 then (bm (f_X3_tellWhenOver k0 m0) (fun m2 _ => some (m2, ()))) else (if x1 = 7 then (bm (f_X3_reset N k0 m0) (fun m3 _ => some (m3, ()))) else (bm (f_X3_setByteMask k0 m0 x1 x2) (fun m4 _ => some (m4, ())))))
theorem c_X3_obeyCommon (l : Launch) (E : EnvT) (N : Nat) (k0 : Nat) (hk0 : isSt k0 = true) (m0 : Mem) (x1 : Int32) (x2 : Int32) : CT l E yX3_obeyCommon cX3_obeyCommon 3 none (rm_X3_obeyCommon) rvV (f_X3_obeyCommon N k0 m0 x1 x2) [.ref (eAd E k0), .int x1, .int x2] m0 := by
  refine CT.ofV (own := RX3) (by decide) rfl (Nat.le_of_ble_eq_true rfl) ?_
  show V l E RX3 cX3_obeyCommon 3 none (rm_X3_obeyCommon) 0 0 (Zm E) rvV _ m0 0 [(0, .ref (eAd E k0)), (1, .int x1), (2, .int x2)] []
  unfold f_X3_obeyCommon
  refine v_iload_n dX3_obeyCommon_0 rfl 1 rfl ?_
  refine v_lcase (k := 1) (tgt := 36) dX3_obeyCommon_1 (by decide) rfl (by decide) ?_ (fun n1_0 => ?_)
  · refine v_aload_n dX3_obeyCommon_36 rfl 0 rfl ?_
    refine v_callVv (q := k0) (ci := 3) (C := RX3) (T := TX3) (NN := 17) (As := []) (rest := []) (c_X3_clearStatus l E k0 hk0 m0) kv_X3_clearStatus (kst hk0) (by decide) rfl q652 ⟨rfl, rfl⟩ ⟨Nat.le_of_ble_eq_true rfl, Nat.le_of_ble_eq_true rfl⟩ ⟨Nat.zero_le _, Nat.zero_le _⟩ rfl rfl (Nat.le_of_ble_eq_true rfl) dX3_obeyCommon_37 (fun m1 _ => ?_)
    refine v_goto (tgt := 63) dX3_obeyCommon_40 (by decide) ?_
    exact v_vret dX3_obeyCommon_63
  refine v_lcase (k := 6) (tgt := 43) dX3_obeyCommon_1 (by decide) rfl (by decide) ?_ (fun n1_1 => ?_)
  · refine v_aload_n dX3_obeyCommon_43 rfl 0 rfl ?_
    refine v_callVv (q := k0) (ci := 3) (C := RX3) (T := TX3) (NN := 17) (As := []) (rest := []) (c_X3_tellWhenOver l E k0 hk0 m0) kv_X3_tellWhenOver (kst hk0) (by decide) rfl q656 ⟨rfl, rfl⟩ ⟨Nat.le_of_ble_eq_true rfl, Nat.le_of_ble_eq_true rfl⟩ ⟨Nat.zero_le _, Nat.zero_le _⟩ rfl rfl (Nat.le_of_ble_eq_true rfl) dX3_obeyCommon_44 (fun m2 _ => ?_)
    refine v_goto (tgt := 63) dX3_obeyCommon_47 (by decide) ?_
    exact v_vret dX3_obeyCommon_63
  refine v_lcase (k := 7) (tgt := 50) dX3_obeyCommon_1 (by decide) rfl (by decide) ?_ (fun n1_2 => ?_)
  · refine v_aload_n dX3_obeyCommon_50 rfl 0 rfl ?_
    refine v_callVv (q := k0) (ci := 3) (C := RX3) (T := TX3) (NN := 17) (As := []) (rest := []) (c_X3_reset l E N k0 hk0 m0) kv_X3_reset (kst hk0) (by decide) rfl q660 ⟨rfl, rfl⟩ ⟨Nat.le_of_ble_eq_true rfl, Nat.le_of_ble_eq_true rfl⟩ ⟨Nat.zero_le _, Nat.zero_le _⟩ rfl rfl (Nat.le_of_ble_eq_true rfl) dX3_obeyCommon_51 (fun m3 _ => ?_)
    refine v_goto (tgt := 63) dX3_obeyCommon_54 (by decide) ?_
    exact v_vret dX3_obeyCommon_63
  refine v_lout (off := 56) (tgt := 57) dX3_obeyCommon_1 (by decide) (by refine (lv_osw n1_0 rfl).trans ?_; refine (lv_osw n1_1 rfl).trans ?_; refine (lv_osw n1_2 rfl).trans ?_; rfl) (by decide) ?_
  refine v_aload_n dX3_obeyCommon_57 rfl 0 rfl ?_
  refine v_iload_n dX3_obeyCommon_58 rfl 1 rfl ?_
  refine v_iload_n dX3_obeyCommon_59 rfl 2 rfl ?_
  refine v_callVv (q := k0) (ci := 3) (C := RX3) (T := TX3) (NN := 17) (As := [.int x1, .int x2]) (rest := []) (c_X3_setByteMask l E k0 hk0 m0 x1 x2) kv_X3_setByteMask (kst hk0) (by decide) rfl q664 ⟨rfl, rfl⟩ ⟨Nat.le_of_ble_eq_true rfl, Nat.le_of_ble_eq_true rfl⟩ ⟨Nat.zero_le _, Nat.zero_le _⟩ rfl rfl (Nat.le_of_ble_eq_true rfl) dX3_obeyCommon_60 (fun m4 _ => ?_)
  exact v_vret dX3_obeyCommon_63

def rm_X8_performCommon : Room := { frames := 10, cells := 0, slots := 0, locals := 445 }
def f_X8_performCommon_48 (N : Nat) (m0 : Mem) (x1 : Int32) (s1 : Int32) : Option (Mem × Int32) := bm (f_X6_valueFault m0 s1) (fun m1 r1 => if r1 = 0 then (if (m1 38 6) = 0 then (bm (f_X3_obeyCommon N 43 m1 x1 (m1 38 8)) (fun m2 _ => some (m2, 0))) else (bm (f_X3_commonAnswer 43 m1 x1) (fun m3 r3 => bm (f_X3_reply 43 m3 r3) (fun m4 _ => some (m4, 0))))) else (some (m1, r1)))
theorem w_X8_performCommon_48 (l : Launch) (E : EnvT) (N : Nat) (m0 : Mem) (x1 : Int32) (s1 : Int32) : V l E RX8 cX8_performCommon 3 (some .int) (rm_X8_performCommon) 0 0 (Zm E) rvI (f_X8_performCommon_48 N m0 x1 s1) m0 48 [(0, .ref (eAd E 0)), (1, .int x1)] [.int s1, .ref (eAd E 38)] := by
  unfold f_X8_performCommon_48
  refine v_callVi (q := 38) (ci := 6) (C := RX6) (T := TX6) (NN := 9) (As := [.int s1]) (rest := []) (c_X6_valueFault l E m0 s1) kv_X6_valueFault kc38 (by decide) rfl q613 ⟨rfl, rfl⟩ ⟨Nat.le_of_ble_eq_true rfl, Nat.le_of_ble_eq_true rfl⟩ ⟨Nat.zero_le _, Nat.zero_le _⟩ rfl rfl (Nat.le_of_ble_eq_true rfl) dX8_performCommon_48 (fun m1 r1 => ?_)
  refine v_istore_n (lv' := [(2, .int r1), (0, .ref (eAd E 0)), (1, .int x1)]) dX8_performCommon_51 rfl (Nat.le_of_ble_eq_true rfl) rfl ?_
  refine v_iload_n dX8_performCommon_52 rfl 0 rfl ?_
  refine v_if_eq (tgt := 58) dX8_performCommon_53 (by decide) ?_ ?_
  · refine v_aload_n dX8_performCommon_58 rfl 1 rfl ?_
    refine gf_X8_unit kc0 q335 dX8_performCommon_59 ?_
    refine gf_X6_isQuestion kc38 q208 dX8_performCommon_62 ?_
    refine v_if_eq (tgt := 86) dX8_performCommon_65 (by decide) ?_ ?_
    · refine v_aload_n dX8_performCommon_86 rfl 1 rfl ?_
      refine gf_X8_now kc0 q336 dX8_performCommon_87 ?_
      refine v_iload_n dX8_performCommon_90 rfl 2 rfl ?_
      refine v_aload_n dX8_performCommon_91 rfl 1 rfl ?_
      refine gf_X8_unit kc0 q335 dX8_performCommon_92 ?_
      refine gf_X6_number kc38 q211 dX8_performCommon_95 ?_
      refine v_callVv (q := 43) (ci := 3) (C := RX3) (T := TX3) (NN := 17) (As := [.int x1, .int (m1 38 8)]) (rest := []) (c_X3_obeyCommon l E N 43 st43 m1 x1 (m1 38 8)) kv_X3_obeyCommon kc43 (by decide) rfl q648 ⟨rfl, rfl⟩ ⟨Nat.le_of_ble_eq_true rfl, Nat.le_of_ble_eq_true rfl⟩ ⟨Nat.zero_le _, Nat.zero_le _⟩ rfl rfl (Nat.le_of_ble_eq_true rfl) dX8_performCommon_98 (fun m2 _ => ?_)
      refine v_iconst (v := 0) dX8_performCommon_101 rfl ?_
      exact v_iret dX8_performCommon_102
    · refine v_aload_n dX8_performCommon_68 rfl 1 rfl ?_
      refine gf_X8_now kc0 q336 dX8_performCommon_69 ?_
      refine v_aload_n dX8_performCommon_72 rfl 1 rfl ?_
      refine gf_X8_now kc0 q336 dX8_performCommon_73 ?_
      refine v_iload_n dX8_performCommon_76 rfl 2 rfl ?_
      refine v_callVi (q := 43) (ci := 3) (C := RX3) (T := TX3) (NN := 17) (As := [.int x1]) (rest := [.ref (eAd E 43)]) (c_X3_commonAnswer l E 43 st43 m1 x1) kv_X3_commonAnswer kc43 (by decide) rfl q617 ⟨rfl, rfl⟩ ⟨Nat.le_of_ble_eq_true rfl, Nat.le_of_ble_eq_true rfl⟩ ⟨Nat.zero_le _, Nat.zero_le _⟩ rfl rfl (Nat.le_of_ble_eq_true rfl) dX8_performCommon_77 (fun m3 r3 => ?_)
      refine v_callVv (q := 43) (ci := 3) (C := RX3) (T := TX3) (NN := 17) (As := [.int r3]) (rest := []) (c_X3_reply l E 43 st43 m3 r3) kv_X3_reply kc43 (by decide) rfl q629 ⟨rfl, rfl⟩ ⟨Nat.le_of_ble_eq_true rfl, Nat.le_of_ble_eq_true rfl⟩ ⟨Nat.zero_le _, Nat.zero_le _⟩ rfl rfl (Nat.le_of_ble_eq_true rfl) dX8_performCommon_80 (fun m4 _ => ?_)
      refine v_goto (tgt := 101) dX8_performCommon_83 (by decide) ?_
      refine v_iconst (v := 0) dX8_performCommon_101 rfl ?_
      exact v_iret dX8_performCommon_102
  · refine v_iload_n dX8_performCommon_56 rfl 0 rfl ?_
    exact v_iret dX8_performCommon_57
def f_X8_performCommon_43 (N : Nat) (m0 : Mem) (x1 : Int32) : Option (Mem × Int32) := (f_X8_performCommon_48 N m0 x1 1)
theorem w_X8_performCommon_43 (l : Launch) (E : EnvT) (N : Nat) (m0 : Mem) (x1 : Int32) : V l E RX8 cX8_performCommon 3 (some .int) (rm_X8_performCommon) 0 0 (Zm E) rvI (f_X8_performCommon_43 N m0 x1) m0 43 [(0, .ref (eAd E 0)), (1, .int x1)] [.ref (eAd E 38)] := by
  unfold f_X8_performCommon_43
  refine v_iconst (v := 1) dX8_performCommon_43 rfl ?_
  refine v_goto (tgt := 48) dX8_performCommon_44 (by decide) ?_
  exact w_X8_performCommon_48 l E N m0 x1 1
def f_X8_performCommon (N : Nat) (m0 : Mem) : Option (Mem × Int32) := bm (f_X6_commonWord N m0) (fun m1 r1 => bm (f_X8_hasForm m1 r1 (m1 38 6)) (fun m2 r2 => if r2 = 0 then (some (m2, (-113))) else (if r1 = 2 then (f_X8_performCommon_43 N m2 r1) else (if r1 = 3 then (f_X8_performCommon_43 N m2 r1) else (f_X8_performCommon_48 N m2 r1 0)))))
theorem c_X8_performCommon (l : Launch) (E : EnvT) (N : Nat) (m0 : Mem) : CT l E yX8_performCommon cX8_performCommon 3 (some .int) (rm_X8_performCommon) rvI (f_X8_performCommon N m0) [.ref (eAd E 0)] m0 := by
  refine CT.ofV (own := RX8) (by decide) rfl (Nat.le_of_ble_eq_true rfl) ?_
  show V l E RX8 cX8_performCommon 3 (some .int) (rm_X8_performCommon) 0 0 (Zm E) rvI _ m0 0 [(0, .ref (eAd E 0))] []
  unfold f_X8_performCommon
  refine v_aload_n dX8_performCommon_0 rfl 0 rfl ?_
  refine gf_X8_unit kc0 q335 dX8_performCommon_1 ?_
  refine v_aload_n dX8_performCommon_4 rfl 0 rfl ?_
  refine gf_X8_text kc0 q333 dX8_performCommon_5 ?_
  refine v_callVi (q := 38) (ci := 6) (C := RX6) (T := TX6) (NN := 9) (As := [.ref (eAd E 1)]) (rest := []) (c_X6_commonWord l E N m0) kv_X6_commonWord kc38 (by decide) rfl q599 ⟨rfl, rfl⟩ ⟨Nat.le_of_ble_eq_true rfl, Nat.le_of_ble_eq_true rfl⟩ ⟨Nat.zero_le _, Nat.zero_le _⟩ rfl rfl (Nat.le_of_ble_eq_true rfl) dX8_performCommon_8 (fun m1 r1 => ?_)
  refine v_istore_n (lv' := [(1, .int r1), (0, .ref (eAd E 0))]) dX8_performCommon_11 rfl (Nat.le_of_ble_eq_true rfl) rfl ?_
  refine v_iload_n dX8_performCommon_12 rfl 0 rfl ?_
  refine v_aload_n dX8_performCommon_13 rfl 1 rfl ?_
  refine gf_X8_unit kc0 q335 dX8_performCommon_14 ?_
  refine gf_X6_isQuestion kc38 q208 dX8_performCommon_17 ?_
  refine v_callSi (As := [.int r1, .int (m1 38 6)]) (rest := []) (c_X8_hasForm l E m1 r1 (m1 38 6)) ks_X8_hasForm q610 ⟨rfl, rfl⟩ ⟨Nat.le_of_ble_eq_true rfl, Nat.le_of_ble_eq_true rfl⟩ ⟨Nat.zero_le _, Nat.zero_le _⟩ rfl rfl (Nat.le_of_ble_eq_true rfl) dX8_performCommon_20 (fun m2 r2 => ?_)
  refine v_if_ne (tgt := 29) dX8_performCommon_23 (by decide) ?_ ?_
  · refine v_aload_n dX8_performCommon_29 rfl 1 rfl ?_
    refine gf_X8_unit kc0 q335 dX8_performCommon_30 ?_
    refine v_iload_n dX8_performCommon_33 rfl 0 rfl ?_
    refine v_iconst (v := 2) dX8_performCommon_34 rfl ?_
    refine v_icmp_eq (tgt := 43) dX8_performCommon_35 (by decide) ?_ ?_
    · refine v_sub [1, 0] rfl ?_
      exact w_X8_performCommon_43 l E N m2 r1
    · refine v_iload_n dX8_performCommon_38 rfl 0 rfl ?_
      refine v_iconst (v := 3) dX8_performCommon_39 rfl ?_
      refine v_icmp_ne (tgt := 47) dX8_performCommon_40 (by decide) ?_ ?_
      · refine v_iconst (v := 0) dX8_performCommon_47 rfl ?_
        refine v_sub [1, 0] rfl ?_
        exact w_X8_performCommon_48 l E N m2 r1 0
      · refine v_sub [1, 0] rfl ?_
        exact w_X8_performCommon_43 l E N m2 r1
  · refine v_bipush (v := (-113)) dX8_performCommon_26 rfl ?_
    exact v_iret dX8_performCommon_28
