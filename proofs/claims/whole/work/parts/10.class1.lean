def rm_X8_isNode : Room := { frames := 0, cells := 0, slots := 0, locals := 0 }
def f_X8_isNode (m0 : Mem) (x1 : Int32) : Option (Mem × Int32) := if x1 < 0 then (some (m0, 0)) else (if (m0 43 0) ≤ x1 then (some (m0, 0)) else (if 16 ≤ x1 then (some (m0, 0)) else (some (m0, 1))))
theorem c_X8_isNode (l : Launch) (E : EnvT) (m0 : Mem) (x1 : Int32) : CT l E yX8_isNode cX8_isNode 2 (some .boolean) (rm_X8_isNode) rvI (f_X8_isNode m0 x1) [.ref (eAd E 0), .int x1] m0 := by
  refine CT.ofV (own := RX8) (by decide) rfl (Nat.le_of_ble_eq_true rfl) ?_
  show V l E RX8 cX8_isNode 2 (some .boolean) (rm_X8_isNode) 0 0 (Zm E) rvI _ m0 0 [(0, .ref (eAd E 0)), (1, .int x1)] []
  unfold f_X8_isNode
  refine v_iload_n dX8_isNode_0 rfl 1 rfl ?_
  refine v_if_lt (tgt := 25) dX8_isNode_1 (by decide) ?_ ?_
  · refine v_iconst (v := 0) dX8_isNode_25 rfl ?_
    exact v_zret rfl dX8_isNode_26
  · refine v_iload_n dX8_isNode_4 rfl 1 rfl ?_
    refine v_aload_n dX8_isNode_5 rfl 0 rfl ?_
    refine gf_X8_now kc0 q336 dX8_isNode_6 ?_
    refine gf_X3_nodes kc43 q256 dX8_isNode_9 ?_
    refine v_icmp_ge (tgt := 25) dX8_isNode_12 (by decide) ?_ ?_
    · refine v_iconst (v := 0) dX8_isNode_25 rfl ?_
      exact v_zret rfl dX8_isNode_26
    · refine v_iload_n dX8_isNode_15 rfl 1 rfl ?_
      refine v_bipush (v := 16) dX8_isNode_16 rfl ?_
      refine v_icmp_ge (tgt := 25) dX8_isNode_18 (by decide) ?_ ?_
      · refine v_iconst (v := 0) dX8_isNode_25 rfl ?_
        exact v_zret rfl dX8_isNode_26
      · refine v_iconst (v := 1) dX8_isNode_21 rfl ?_
        refine v_goto (tgt := 26) dX8_isNode_22 (by decide) ?_
        exact v_zret rfl dX8_isNode_26

def rm_X8_isParent : Room := { frames := 1, cells := 0, slots := 0, locals := 21 }
def f_X8_isParent (m0 : Mem) (x1 : Int32) : Option (Mem × Int32) := bm (f_X8_isNode m0 x1) (fun m1 r1 => if r1 = 0 then (some (m1, 0)) else (gd (inR x1 16) (if (m1 (6 + 2 * ix x1) 1) = 0 then (some (m1, 1)) else (some (m1, 0)))))
theorem c_X8_isParent (l : Launch) (E : EnvT) (m0 : Mem) (x1 : Int32) : CT l E yX8_isParent cX8_isParent 2 (some .boolean) (rm_X8_isParent) rvI (f_X8_isParent m0 x1) [.ref (eAd E 0), .int x1] m0 := by
  refine CT.ofV (own := RX8) (by decide) rfl (Nat.le_of_ble_eq_true rfl) ?_
  show V l E RX8 cX8_isParent 2 (some .boolean) (rm_X8_isParent) 0 0 (Zm E) rvI _ m0 0 [(0, .ref (eAd E 0)), (1, .int x1)] []
  unfold f_X8_isParent
  refine v_aload_n dX8_isParent_0 rfl 0 rfl ?_
  refine v_iload_n dX8_isParent_1 rfl 1 rfl ?_
  refine v_callVi (q := 0) (ci := 8) (C := RX8) (T := TX8) (NN := 8) (As := [.int x1]) (rest := []) (c_X8_isNode l E m0 x1) kv_X8_isNode kc0 (by decide) rfl q366 ⟨rfl, rfl⟩ ⟨Nat.le_of_ble_eq_true rfl, Nat.le_of_ble_eq_true rfl⟩ ⟨Nat.zero_le _, Nat.zero_le _⟩ rfl rfl (Nat.le_of_ble_eq_true rfl) dX8_isParent_2 (fun m1 r1 => ?_)
  refine v_if_eq (tgt := 27) dX8_isParent_5 (by decide) ?_ ?_
  · refine v_iconst (v := 0) dX8_isParent_27 rfl ?_
    exact v_zret rfl dX8_isParent_28
  · refine v_aload_n dX8_isParent_8 rfl 0 rfl ?_
    refine gf_X8_tree kc0 q334 dX8_isParent_9 ?_
    refine gf_X5_nodes kc3 q155 dX8_isParent_12 ?_
    refine v_iload_n dX8_isParent_15 rfl 1 rfl ?_
    refine v_gd (fun g16 => ?_)
    refine v_aldN g16 dX8_isParent_16 ?_
    refine gf_X1_kind (knd g16) q126 dX8_isParent_17 ?_
    refine v_if_ne (tgt := 27) dX8_isParent_20 (by decide) ?_ ?_
    · refine v_iconst (v := 0) dX8_isParent_27 rfl ?_
      exact v_zret rfl dX8_isParent_28
    · refine v_iconst (v := 1) dX8_isParent_23 rfl ?_
      refine v_goto (tgt := 28) dX8_isParent_24 (by decide) ?_
      exact v_zret rfl dX8_isParent_28

def rm_X8_isWithin : Room := { frames := 0, cells := 0, slots := 0, locals := 0 }
def f_X8_isWithin (m0 : Mem) (x0 : Int32) (x1 : Int32) (x2 : Int32) : Option (Mem × Int32) := if x0 < x1 then (some (m0, 0)) else (if x2 < x0 then (some (m0, 0)) else (some (m0, 1)))
theorem c_X8_isWithin (l : Launch) (E : EnvT) (m0 : Mem) (x0 : Int32) (x1 : Int32) (x2 : Int32) : CT l E yX8_isWithin cX8_isWithin 3 (some .boolean) (rm_X8_isWithin) rvI (f_X8_isWithin m0 x0 x1 x2) [.int x0, .int x1, .int x2] m0 := by
  refine CT.ofV (own := RX8) (by decide) rfl (Nat.le_of_ble_eq_true rfl) ?_
  show V l E RX8 cX8_isWithin 3 (some .boolean) (rm_X8_isWithin) 0 0 (Zm E) rvI _ m0 0 [(0, .int x0), (1, .int x1), (2, .int x2)] []
  unfold f_X8_isWithin
  refine v_iload_n dX8_isWithin_0 rfl 0 rfl ?_
  refine v_iload_n dX8_isWithin_1 rfl 1 rfl ?_
  refine v_icmp_lt (tgt := 14) dX8_isWithin_2 (by decide) ?_ ?_
  · refine v_iconst (v := 0) dX8_isWithin_14 rfl ?_
    exact v_zret rfl dX8_isWithin_15
  · refine v_iload_n dX8_isWithin_5 rfl 0 rfl ?_
    refine v_iload_n dX8_isWithin_6 rfl 2 rfl ?_
    refine v_icmp_gt (tgt := 14) dX8_isWithin_7 (by decide) ?_ ?_
    · refine v_iconst (v := 0) dX8_isWithin_14 rfl ?_
      exact v_zret rfl dX8_isWithin_15
    · refine v_iconst (v := 1) dX8_isWithin_10 rfl ?_
      refine v_goto (tgt := 15) dX8_isWithin_11 (by decide) ?_
      exact v_zret rfl dX8_isWithin_15

def rm_X8_refuse : Room := { frames := 0, cells := 0, slots := 0, locals := 0 }
def f_X8_refuse (m0 : Mem) (x1 : Int32) : Option (Mem × Int32) := if x1 = (-10002) then (lm (up m0 0 5 ((m0 0 5) + 1)) (fun m3 => some (m3, x1))) else (if x1 = (-10003) then (lm (up m0 0 6 ((m0 0 6) + 1)) (fun m2 => some (m2, x1))) else (lm (up m0 0 7 ((m0 0 7) + 1)) (fun m1 => some (m1, x1))))
theorem c_X8_refuse (l : Launch) (E : EnvT) (m0 : Mem) (x1 : Int32) : CT l E yX8_refuse cX8_refuse 2 (some .int) (rm_X8_refuse) rvI (f_X8_refuse m0 x1) [.ref (eAd E 0), .int x1] m0 := by
  refine CT.ofV (own := RX8) (by decide) rfl (Nat.le_of_ble_eq_true rfl) ?_
  show V l E RX8 cX8_refuse 2 (some .int) (rm_X8_refuse) 0 0 (Zm E) rvI _ m0 0 [(0, .ref (eAd E 0)), (1, .int x1)] []
  unfold f_X8_refuse
  refine v_iload_n dX8_refuse_0 rfl 1 rfl ?_
  refine v_sipush (v := (-10002)) dX8_refuse_1 rfl ?_
  refine v_icmp_ne (tgt := 20) dX8_refuse_4 (by decide) ?_ ?_
  · refine v_iload_n dX8_refuse_20 rfl 1 rfl ?_
    refine v_sipush (v := (-10003)) dX8_refuse_21 rfl ?_
    refine v_icmp_ne (tgt := 40) dX8_refuse_24 (by decide) ?_ ?_
    · refine v_aload_n dX8_refuse_40 rfl 0 rfl ?_
      refine v_dup dX8_refuse_41 rfl ?_
      refine gf_X8_fullCalls kc0 q340 dX8_refuse_42 ?_
      refine v_iconst (v := 1) dX8_refuse_45 rfl ?_
      refine v_iadd dX8_refuse_46 ?_
      refine pf_X8_fullCalls kc0 q340 dX8_refuse_47 (fun m1 => ?_)
      refine v_iload_n dX8_refuse_50 rfl 1 rfl ?_
      exact v_iret dX8_refuse_51
    · refine v_aload_n dX8_refuse_27 rfl 0 rfl ?_
      refine v_dup dX8_refuse_28 rfl ?_
      refine gf_X8_noCalls kc0 q339 dX8_refuse_29 ?_
      refine v_iconst (v := 1) dX8_refuse_32 rfl ?_
      refine v_iadd dX8_refuse_33 ?_
      refine pf_X8_noCalls kc0 q339 dX8_refuse_34 (fun m2 => ?_)
      refine v_goto (tgt := 50) dX8_refuse_37 (by decide) ?_
      refine v_iload_n dX8_refuse_50 rfl 1 rfl ?_
      exact v_iret dX8_refuse_51
  · refine v_aload_n dX8_refuse_7 rfl 0 rfl ?_
    refine v_dup dX8_refuse_8 rfl ?_
    refine gf_X8_badCalls kc0 q338 dX8_refuse_9 ?_
    refine v_iconst (v := 1) dX8_refuse_12 rfl ?_
    refine v_iadd dX8_refuse_13 ?_
    refine pf_X8_badCalls kc0 q338 dX8_refuse_14 (fun m3 => ?_)
    refine v_goto (tgt := 50) dX8_refuse_17 (by decide) ?_
    refine v_iload_n dX8_refuse_50 rfl 1 rfl ?_
    exact v_iret dX8_refuse_51

def rm_X4_byteAt : Room := { frames := 0, cells := 0, slots := 0, locals := 0 }
def f_X4_byteAt (m0 : Mem) (x1 : Int32) : Option (Mem × Int32) := if x1 < 0 then (some (m0, (-1))) else (if (m0 1 1) ≤ x1 then (some (m0, (-1))) else (if 100 ≤ x1 then (some (m0, (-1))) else (gd (inR x1 100) (some (m0, (m0 2 (ix x1)))))))
theorem c_X4_byteAt (l : Launch) (E : EnvT) (m0 : Mem) (x1 : Int32) : CT l E yX4_byteAt cX4_byteAt 2 (some .int) (rm_X4_byteAt) rvI (f_X4_byteAt m0 x1) [.ref (eAd E 1), .int x1] m0 := by
  refine CT.ofV (own := RX4) (by decide) rfl (Nat.le_of_ble_eq_true rfl) ?_
  show V l E RX4 cX4_byteAt 2 (some .int) (rm_X4_byteAt) 0 0 (Zm E) rvI _ m0 0 [(0, .ref (eAd E 1)), (1, .int x1)] []
  unfold f_X4_byteAt
  refine v_iload_n dX4_byteAt_0 rfl 1 rfl ?_
  refine v_if_lt (tgt := 27) dX4_byteAt_1 (by decide) ?_ ?_
  · refine v_iconst (v := (-1)) dX4_byteAt_27 rfl ?_
    exact v_iret dX4_byteAt_28
  · refine v_iload_n dX4_byteAt_4 rfl 1 rfl ?_
    refine v_aload_n dX4_byteAt_5 rfl 0 rfl ?_
    refine gf_X4_length kc1 q100 dX4_byteAt_6 ?_
    refine v_icmp_ge (tgt := 27) dX4_byteAt_9 (by decide) ?_ ?_
    · refine v_iconst (v := (-1)) dX4_byteAt_27 rfl ?_
      exact v_iret dX4_byteAt_28
    · refine v_iload_n dX4_byteAt_12 rfl 1 rfl ?_
      refine v_bipush (v := 100) dX4_byteAt_13 rfl ?_
      refine v_icmp_ge (tgt := 27) dX4_byteAt_15 (by decide) ?_ ?_
      · refine v_iconst (v := (-1)) dX4_byteAt_27 rfl ?_
        exact v_iret dX4_byteAt_28
      · refine v_aload_n dX4_byteAt_18 rfl 0 rfl ?_
        refine gf_X4_bytes kc1 q99 dX4_byteAt_19 ?_
        refine v_iload_n dX4_byteAt_22 rfl 1 rfl ?_
        refine v_gd (fun g23 => ?_)
        refine v_bald kc2 rfl g23 dX4_byteAt_23 ?_
        refine v_goto (tgt := 28) dX4_byteAt_24 (by decide) ?_
        exact v_iret dX4_byteAt_28

def rm_X8_isCapital : Room := { frames := 0, cells := 0, slots := 0, locals := 0 }
def f_X8_isCapital (m0 : Mem) (x0 : Int32) : Option (Mem × Int32) := if x0 < 65 then (some (m0, 0)) else (if 90 < x0 then (some (m0, 0)) else (some (m0, 1)))
theorem c_X8_isCapital (l : Launch) (E : EnvT) (m0 : Mem) (x0 : Int32) : CT l E yX8_isCapital cX8_isCapital 1 (some .boolean) (rm_X8_isCapital) rvI (f_X8_isCapital m0 x0) [.int x0] m0 := by
  refine CT.ofV (own := RX8) (by decide) rfl (Nat.le_of_ble_eq_true rfl) ?_
  show V l E RX8 cX8_isCapital 1 (some .boolean) (rm_X8_isCapital) 0 0 (Zm E) rvI _ m0 0 [(0, .int x0)] []
  unfold f_X8_isCapital
  refine v_iload_n dX8_isCapital_0 rfl 0 rfl ?_
  refine v_bipush (v := 65) dX8_isCapital_1 rfl ?_
  refine v_icmp_lt (tgt := 16) dX8_isCapital_3 (by decide) ?_ ?_
  · refine v_iconst (v := 0) dX8_isCapital_16 rfl ?_
    exact v_zret rfl dX8_isCapital_17
  · refine v_iload_n dX8_isCapital_6 rfl 0 rfl ?_
    refine v_bipush (v := 90) dX8_isCapital_7 rfl ?_
    refine v_icmp_gt (tgt := 16) dX8_isCapital_9 (by decide) ?_ ?_
    · refine v_iconst (v := 0) dX8_isCapital_16 rfl ?_
      exact v_zret rfl dX8_isCapital_17
    · refine v_iconst (v := 1) dX8_isCapital_12 rfl ?_
      refine v_goto (tgt := 17) dX8_isCapital_13 (by decide) ?_
      exact v_zret rfl dX8_isCapital_17

def rm_X4_pastCapitals : Room := { frames := 1, cells := 0, slots := 0, locals := 21 }
def f_X4_pastCapitals_2b (N : Nat) (rec_2 : Mem → Int32 → Option (Mem × Int32)) (m0 : Mem) (x2 : Int32) : Option (Mem × Int32) := if (m0 1 1) ≤ x2 then (some (m0, x2)) else (bm (f_X4_byteAt m0 x2) (fun m1 r1 => bm (f_X8_isCapital m1 r1) (fun m2 r2 => if r2 = 0 then (some (m2, x2)) else (rec_2 m2 (x2 + 1)))))
def f_X4_pastCapitals_2 (N : Nat) : Nat → Mem → Int32 → Option (Mem × Int32)
  | 0 => fun _ _ => none
  | n + 1 => f_X4_pastCapitals_2b N (f_X4_pastCapitals_2 N n)
theorem w_X4_pastCapitals_2b (l : Launch) (E : EnvT) (N : Nat) (rec_2 : Mem → Int32 → Option (Mem × Int32)) (hrec_2 : ∀ (m0 : Mem) (x2 : Int32), V l E RX4 cX4_pastCapitals 3 (some .int) (rm_X4_pastCapitals) 0 0 (Zm E) rvI (rec_2 m0 x2) m0 2 [(0, .ref (eAd E 1)), (2, .int x2)] []) (m0 : Mem) (x2 : Int32) : V l E RX4 cX4_pastCapitals 3 (some .int) (rm_X4_pastCapitals) 0 0 (Zm E) rvI (f_X4_pastCapitals_2b N rec_2 m0 x2) m0 2 [(0, .ref (eAd E 1)), (2, .int x2)] [] := by
  unfold f_X4_pastCapitals_2b
  refine v_iload_n dX4_pastCapitals_2 rfl 1 rfl ?_
  refine v_aload_n dX4_pastCapitals_3 rfl 0 rfl ?_
  refine gf_X4_length kc1 q100 dX4_pastCapitals_4 ?_
  refine v_icmp_ge (tgt := 27) dX4_pastCapitals_7 (by decide) ?_ ?_
  · refine v_iload_n dX4_pastCapitals_27 rfl 1 rfl ?_
    exact v_iret dX4_pastCapitals_28
  · refine v_aload_n dX4_pastCapitals_10 rfl 0 rfl ?_
    refine v_iload_n dX4_pastCapitals_11 rfl 1 rfl ?_
    refine v_callVi (q := 1) (ci := 4) (C := RX4) (T := TX4) (NN := 2) (As := [.int x2]) (rest := []) (c_X4_byteAt l E m0 x2) kv_X4_byteAt kc1 (by decide) rfl q385 ⟨rfl, rfl⟩ ⟨Nat.le_of_ble_eq_true rfl, Nat.le_of_ble_eq_true rfl⟩ ⟨Nat.zero_le _, Nat.zero_le _⟩ rfl rfl (Nat.le_of_ble_eq_true rfl) dX4_pastCapitals_12 (fun m1 r1 => ?_)
    refine v_callSNi (As := [.int r1]) (rest := []) (c_X8_isCapital l E m1 r1) ks_X8_isCapital nq389 ⟨rfl, rfl⟩ ⟨Nat.le_of_ble_eq_true rfl, Nat.le_of_ble_eq_true rfl⟩ ⟨Nat.zero_le _, Nat.zero_le _⟩ rfl rfl (Nat.le_of_ble_eq_true rfl) dX4_pastCapitals_15 (fun m2 r2 => ?_)
    refine v_if_eq (tgt := 27) dX4_pastCapitals_18 (by decide) ?_ ?_
    · refine v_iload_n dX4_pastCapitals_27 rfl 1 rfl ?_
      exact v_iret dX4_pastCapitals_28
    · refine v_iinc (v := (x2 + 1)) (lv' := [(2, .int (x2 + 1)), (0, .ref (eAd E 1))]) dX4_pastCapitals_21 1 rfl rfl (Nat.le_of_ble_eq_true rfl) rfl ?_
      refine v_goto (tgt := 2) dX4_pastCapitals_24 (by decide) ?_
      refine v_sub [1, 0] rfl ?_
      exact hrec_2 m2 (x2 + 1)
theorem w_X4_pastCapitals_2 (l : Launch) (E : EnvT) (N : Nat) : ∀ (n : Nat) (m0 : Mem) (x2 : Int32), V l E RX4 cX4_pastCapitals 3 (some .int) (rm_X4_pastCapitals) 0 0 (Zm E) rvI (f_X4_pastCapitals_2 N n m0 x2) m0 2 [(0, .ref (eAd E 1)), (2, .int x2)] [] := by
  intro n
  induction n with
  | zero => intros; exact v_none
  | succ n ih => exact w_X4_pastCapitals_2b l E N _ ih
def f_X4_pastCapitals (N : Nat) (m0 : Mem) (x1 : Int32) : Option (Mem × Int32) := (f_X4_pastCapitals_2 N N m0 x1)
theorem c_X4_pastCapitals (l : Launch) (E : EnvT) (N : Nat) (m0 : Mem) (x1 : Int32) : CT l E yX4_pastCapitals cX4_pastCapitals 3 (some .int) (rm_X4_pastCapitals) rvI (f_X4_pastCapitals N m0 x1) [.ref (eAd E 1), .int x1] m0 := by
  refine CT.ofV (own := RX4) (by decide) rfl (Nat.le_of_ble_eq_true rfl) ?_
  show V l E RX4 cX4_pastCapitals 3 (some .int) (rm_X4_pastCapitals) 0 0 (Zm E) rvI _ m0 0 [(0, .ref (eAd E 1)), (1, .int x1)] []
  unfold f_X4_pastCapitals
  refine v_iload_n dX4_pastCapitals_0 rfl 1 rfl ?_
  refine v_istore_n (lv' := [(2, .int x1), (0, .ref (eAd E 1)), (1, .int x1)]) dX4_pastCapitals_1 rfl (Nat.le_of_ble_eq_true rfl) rfl ?_
  refine v_sub [1, 0] rfl ?_
  exact w_X4_pastCapitals_2 l E N N m0 x1

def rm_X8_isSmall : Room := { frames := 0, cells := 0, slots := 0, locals := 0 }
def f_X8_isSmall (m0 : Mem) (x0 : Int32) : Option (Mem × Int32) := if x0 < 97 then (some (m0, 0)) else (if 122 < x0 then (some (m0, 0)) else (some (m0, 1)))
theorem c_X8_isSmall (l : Launch) (E : EnvT) (m0 : Mem) (x0 : Int32) : CT l E yX8_isSmall cX8_isSmall 1 (some .boolean) (rm_X8_isSmall) rvI (f_X8_isSmall m0 x0) [.int x0] m0 := by
  refine CT.ofV (own := RX8) (by decide) rfl (Nat.le_of_ble_eq_true rfl) ?_
  show V l E RX8 cX8_isSmall 1 (some .boolean) (rm_X8_isSmall) 0 0 (Zm E) rvI _ m0 0 [(0, .int x0)] []
  unfold f_X8_isSmall
  refine v_iload_n dX8_isSmall_0 rfl 0 rfl ?_
  refine v_bipush (v := 97) dX8_isSmall_1 rfl ?_
  refine v_icmp_lt (tgt := 16) dX8_isSmall_3 (by decide) ?_ ?_
  · refine v_iconst (v := 0) dX8_isSmall_16 rfl ?_
    exact v_zret rfl dX8_isSmall_17
  · refine v_iload_n dX8_isSmall_6 rfl 0 rfl ?_
    refine v_bipush (v := 122) dX8_isSmall_7 rfl ?_
    refine v_icmp_gt (tgt := 16) dX8_isSmall_9 (by decide) ?_ ?_
    · refine v_iconst (v := 0) dX8_isSmall_16 rfl ?_
      exact v_zret rfl dX8_isSmall_17
    · refine v_iconst (v := 1) dX8_isSmall_12 rfl ?_
      refine v_goto (tgt := 17) dX8_isSmall_13 (by decide) ?_
      exact v_zret rfl dX8_isSmall_17

def rm_X4_isName : Room := { frames := 2, cells := 0, slots := 0, locals := 43 }
def f_X4_isName_23b (N : Nat) (rec_23 : Mem → Int32 → Option (Mem × Int32)) (m0 : Mem) (x2 : Int32) : Option (Mem × Int32) := if (m0 1 1) ≤ x2 then (some (m0, 1)) else (bm (f_X4_byteAt m0 x2) (fun m1 r1 => bm (f_X8_isSmall m1 r1) (fun m2 r2 => if r2 = 0 then (some (m2, 0)) else (rec_23 m2 (x2 + 1)))))
def f_X4_isName_23 (N : Nat) : Nat → Mem → Int32 → Option (Mem × Int32)
  | 0 => fun _ _ => none
  | n + 1 => f_X4_isName_23b N (f_X4_isName_23 N n)
theorem w_X4_isName_23b (l : Launch) (E : EnvT) (N : Nat) (rec_23 : Mem → Int32 → Option (Mem × Int32)) (hrec_23 : ∀ (m0 : Mem) (x2 : Int32), V l E RX4 cX4_isName 3 (some .boolean) (rm_X4_isName) 0 0 (Zm E) rvI (rec_23 m0 x2) m0 23 [(0, .ref (eAd E 1)), (2, .int x2)] []) (m0 : Mem) (x2 : Int32) : V l E RX4 cX4_isName 3 (some .boolean) (rm_X4_isName) 0 0 (Zm E) rvI (f_X4_isName_23b N rec_23 m0 x2) m0 23 [(0, .ref (eAd E 1)), (2, .int x2)] [] := by
  unfold f_X4_isName_23b
  refine v_iload_n dX4_isName_23 rfl 1 rfl ?_
  refine v_aload_n dX4_isName_24 rfl 0 rfl ?_
  refine gf_X4_length kc1 q100 dX4_isName_25 ?_
  refine v_icmp_ge (tgt := 50) dX4_isName_28 (by decide) ?_ ?_
  · refine v_iconst (v := 1) dX4_isName_50 rfl ?_
    exact v_zret rfl dX4_isName_51
  · refine v_aload_n dX4_isName_31 rfl 0 rfl ?_
    refine v_iload_n dX4_isName_32 rfl 1 rfl ?_
    refine v_callVi (q := 1) (ci := 4) (C := RX4) (T := TX4) (NN := 2) (As := [.int x2]) (rest := []) (c_X4_byteAt l E m0 x2) kv_X4_byteAt kc1 (by decide) rfl q385 ⟨rfl, rfl⟩ ⟨Nat.le_of_ble_eq_true rfl, Nat.le_of_ble_eq_true rfl⟩ ⟨Nat.zero_le _, Nat.zero_le _⟩ rfl rfl (Nat.le_of_ble_eq_true rfl) dX4_isName_33 (fun m1 r1 => ?_)
    refine v_callSNi (As := [.int r1]) (rest := []) (c_X8_isSmall l E m1 r1) ks_X8_isSmall nq392 ⟨rfl, rfl⟩ ⟨Nat.le_of_ble_eq_true rfl, Nat.le_of_ble_eq_true rfl⟩ ⟨Nat.zero_le _, Nat.zero_le _⟩ rfl rfl (Nat.le_of_ble_eq_true rfl) dX4_isName_36 (fun m2 r2 => ?_)
    refine v_if_ne (tgt := 44) dX4_isName_39 (by decide) ?_ ?_
    · refine v_iinc (v := (x2 + 1)) (lv' := [(2, .int (x2 + 1)), (0, .ref (eAd E 1))]) dX4_isName_44 1 rfl rfl (Nat.le_of_ble_eq_true rfl) rfl ?_
      refine v_goto (tgt := 23) dX4_isName_47 (by decide) ?_
      refine v_sub [1, 0] rfl ?_
      exact hrec_23 m2 (x2 + 1)
    · refine v_iconst (v := 0) dX4_isName_42 rfl ?_
      exact v_zret rfl dX4_isName_43
theorem w_X4_isName_23 (l : Launch) (E : EnvT) (N : Nat) : ∀ (n : Nat) (m0 : Mem) (x2 : Int32), V l E RX4 cX4_isName 3 (some .boolean) (rm_X4_isName) 0 0 (Zm E) rvI (f_X4_isName_23 N n m0 x2) m0 23 [(0, .ref (eAd E 1)), (2, .int x2)] [] := by
  intro n
  induction n with
  | zero => intros; exact v_none
  | succ n ih => exact w_X4_isName_23b l E N _ ih
def f_X4_isName (N : Nat) (m0 : Mem) : Option (Mem × Int32) := bm (f_X4_pastCapitals N m0 0) (fun m1 r1 => if r1 = 0 then (some (m1, 0)) else (if (m1 1 1) ≤ 8 then (f_X4_isName_23 N N m1 r1) else (some (m1, 0))))
theorem c_X4_isName (l : Launch) (E : EnvT) (N : Nat) (m0 : Mem) : CT l E yX4_isName cX4_isName 3 (some .boolean) (rm_X4_isName) rvI (f_X4_isName N m0) [.ref (eAd E 1)] m0 := by
  refine CT.ofV (own := RX4) (by decide) rfl (Nat.le_of_ble_eq_true rfl) ?_
  show V l E RX4 cX4_isName 3 (some .boolean) (rm_X4_isName) 0 0 (Zm E) rvI _ m0 0 [(0, .ref (eAd E 1))] []
  unfold f_X4_isName
  refine v_aload_n dX4_isName_0 rfl 0 rfl ?_
  refine v_iconst (v := 0) dX4_isName_1 rfl ?_
  refine v_callVi (q := 1) (ci := 4) (C := RX4) (T := TX4) (NN := 2) (As := [.int 0]) (rest := []) (c_X4_pastCapitals l E N m0 0) kv_X4_pastCapitals kc1 (by decide) rfl q381 ⟨rfl, rfl⟩ ⟨Nat.le_of_ble_eq_true rfl, Nat.le_of_ble_eq_true rfl⟩ ⟨Nat.zero_le _, Nat.zero_le _⟩ rfl rfl (Nat.le_of_ble_eq_true rfl) dX4_isName_2 (fun m1 r1 => ?_)
  refine v_istore_n (lv' := [(1, .int r1), (0, .ref (eAd E 1))]) dX4_isName_5 rfl (Nat.le_of_ble_eq_true rfl) rfl ?_
  refine v_iload_n dX4_isName_6 rfl 0 rfl ?_
  refine v_if_eq (tgt := 19) dX4_isName_7 (by decide) ?_ ?_
  · refine v_iconst (v := 0) dX4_isName_19 rfl ?_
    exact v_zret rfl dX4_isName_20
  · refine v_aload_n dX4_isName_10 rfl 1 rfl ?_
    refine gf_X4_length kc1 q100 dX4_isName_11 ?_
    refine v_bipush (v := 8) dX4_isName_14 rfl ?_
    refine v_icmp_le (tgt := 21) dX4_isName_16 (by decide) ?_ ?_
    · refine v_iload_n dX4_isName_21 rfl 0 rfl ?_
      refine v_istore_n (lv' := [(2, .int r1), (1, .int r1), (0, .ref (eAd E 1))]) dX4_isName_22 rfl (Nat.le_of_ble_eq_true rfl) rfl ?_
      refine v_sub [2, 0] rfl ?_
      exact w_X4_isName_23 l E N N m1 r1
    · refine v_iconst (v := 0) dX4_isName_19 rfl ?_
      exact v_zret rfl dX4_isName_20

def rm_X0_dropOldest : Room := { frames := 0, cells := 0, slots := 0, locals := 0 }
def f_X0_dropOldest_9b (N : Nat) (rec_9 : Mem → Nat → Int32 → Option (Mem × Unit)) (m0 : Mem) (q1 : Nat) (x2 : Int32) : Option (Mem × Unit) := if 5 ≤ x2 then (gd (inR 4 5) (lm (up m0 55 (ix 4) (nI q1)) (fun m1 => lm (up m1 54 1 4) (fun m2 => some (m2, ()))))) else (gd (inR x2 5) (gd (isSt (ix (m0 55 (ix x2)))) (gd (inR (x2 - 1) 5) (lm (up m0 55 (ix (x2 - 1)) (nI (ix (m0 55 (ix x2))))) (fun m3 => (rec_9 m3 q1 (x2 + 1)))))))
def f_X0_dropOldest_9 (N : Nat) : Nat → Mem → Nat → Int32 → Option (Mem × Unit)
  | 0 => fun _ _ _ => none
  | n + 1 => f_X0_dropOldest_9b N (f_X0_dropOldest_9 N n)
theorem w_X0_dropOldest_9b (l : Launch) (E : EnvT) (N : Nat) (rec_9 : Mem → Nat → Int32 → Option (Mem × Unit)) (hrec_9 : ∀ (m0 : Mem) (q1 : Nat) (x2 : Int32) (hq1 : isSt q1 = true), V l E RX0 cX0_dropOldest 3 none (rm_X0_dropOldest) 0 0 (Zm E) rvV (rec_9 m0 q1 x2) m0 9 [(0, .ref (eAd E 54)), (1, .ref (eAd E q1)), (2, .int x2)] []) (m0 : Mem) (q1 : Nat) (x2 : Int32) (hq1 : isSt q1 = true) : V l E RX0 cX0_dropOldest 3 none (rm_X0_dropOldest) 0 0 (Zm E) rvV (f_X0_dropOldest_9b N rec_9 m0 q1 x2) m0 9 [(0, .ref (eAd E 54)), (1, .ref (eAd E q1)), (2, .int x2)] [] := by
  unfold f_X0_dropOldest_9b
  refine v_iload_n dX0_dropOldest_9 rfl 2 rfl ?_
  refine v_iconst (v := 5) dX0_dropOldest_10 rfl ?_
  refine v_icmp_ge (tgt := 34) dX0_dropOldest_11 (by decide) ?_ ?_
  · refine v_aload_n dX0_dropOldest_34 rfl 0 rfl ?_
    refine gf_X0_kept kc54 q325 dX0_dropOldest_35 ?_
    refine v_iconst (v := 4) dX0_dropOldest_38 rfl ?_
    refine v_aload_n dX0_dropOldest_39 rfl 1 rfl ?_
    refine v_gd (fun g40 => ?_)
    refine v_astS hq1 g40 dX0_dropOldest_40 (fun m1 => ?_)
    refine v_aload_n dX0_dropOldest_41 rfl 0 rfl ?_
    refine v_iconst (v := 4) dX0_dropOldest_42 rfl ?_
    refine pf_X0_count kc54 q326 dX0_dropOldest_43 (fun m2 => ?_)
    exact v_vret dX0_dropOldest_46
  · refine v_aload_n dX0_dropOldest_14 rfl 0 rfl ?_
    refine gf_X0_kept kc54 q325 dX0_dropOldest_15 ?_
    refine v_iload_n dX0_dropOldest_18 rfl 2 rfl ?_
    refine v_iconst (v := 1) dX0_dropOldest_19 rfl ?_
    refine v_isub dX0_dropOldest_20 ?_
    refine v_aload_n dX0_dropOldest_21 rfl 0 rfl ?_
    refine gf_X0_kept kc54 q325 dX0_dropOldest_22 ?_
    refine v_iload_n dX0_dropOldest_25 rfl 2 rfl ?_
    refine v_gd (fun g26 => ?_)
    refine v_gd (fun g26s => ?_)
    refine v_aldS g26 dX0_dropOldest_26 ?_
    refine v_gd (fun g27 => ?_)
    refine v_astS g26s g27 dX0_dropOldest_27 (fun m3 => ?_)
    refine v_iinc (v := (x2 + 1)) (lv' := [(2, .int (x2 + 1)), (0, .ref (eAd E 54)), (1, .ref (eAd E q1))]) dX0_dropOldest_28 2 rfl rfl (Nat.le_of_ble_eq_true rfl) rfl ?_
    refine v_goto (tgt := 9) dX0_dropOldest_31 (by decide) ?_
    refine v_sub [1, 2, 0] rfl ?_
    exact hrec_9 m3 q1 (x2 + 1) hq1
theorem w_X0_dropOldest_9 (l : Launch) (E : EnvT) (N : Nat) : ∀ (n : Nat) (m0 : Mem) (q1 : Nat) (x2 : Int32) (hq1 : isSt q1 = true), V l E RX0 cX0_dropOldest 3 none (rm_X0_dropOldest) 0 0 (Zm E) rvV (f_X0_dropOldest_9 N n m0 q1 x2) m0 9 [(0, .ref (eAd E 54)), (1, .ref (eAd E q1)), (2, .int x2)] [] := by
  intro n
  induction n with
  | zero => intros; exact v_none
  | succ n ih => exact w_X0_dropOldest_9b l E N _ ih
def f_X0_dropOldest (N : Nat) (m0 : Mem) : Option (Mem × Unit) := gd (inR 0 5) (gd (isSt (ix (m0 55 (ix 0)))) ((f_X0_dropOldest_9 N N m0 (ix (m0 55 (ix 0))) 1)))
theorem c_X0_dropOldest (l : Launch) (E : EnvT) (N : Nat) (m0 : Mem) : CT l E yX0_dropOldest cX0_dropOldest 3 none (rm_X0_dropOldest) rvV (f_X0_dropOldest N m0) [.ref (eAd E 54)] m0 := by
  refine CT.ofV (own := RX0) (by decide) rfl (Nat.le_of_ble_eq_true rfl) ?_
  show V l E RX0 cX0_dropOldest 3 none (rm_X0_dropOldest) 0 0 (Zm E) rvV _ m0 0 [(0, .ref (eAd E 54))] []
  unfold f_X0_dropOldest
  refine v_aload_n dX0_dropOldest_0 rfl 0 rfl ?_
  refine gf_X0_kept kc54 q325 dX0_dropOldest_1 ?_
  refine v_iconst (v := 0) dX0_dropOldest_4 rfl ?_
  refine v_gd (fun g5 => ?_)
  refine v_gd (fun g5s => ?_)
  refine v_aldS g5 dX0_dropOldest_5 ?_
  refine v_astore_n (lv' := [(1, .ref (eAd E (ix (m0 55 (ix 0))))), (0, .ref (eAd E 54))]) dX0_dropOldest_6 rfl (Nat.le_of_ble_eq_true rfl) rfl ?_
  refine v_iconst (v := 1) dX0_dropOldest_7 rfl ?_
  refine v_istore_n (lv' := [(2, .int 1), (1, .ref (eAd E (ix (m0 55 (ix 0))))), (0, .ref (eAd E 54))]) dX0_dropOldest_8 rfl (Nat.le_of_ble_eq_true rfl) rfl ?_
  refine v_sub [2, 1, 0] rfl ?_
  exact w_X0_dropOldest_9 l E N N m0 (ix (m0 55 (ix 0))) 1 g5s

def rm_X2_copyFrom : Room := { frames := 0, cells := 0, slots := 0, locals := 0 }
def f_X2_copyFrom_38 (N : Nat) (k0 : Nat) (k1 : Nat) (m0 : Mem) : Option (Mem × Unit) := lm (up m0 k0 1 (m0 k1 1)) (fun m1 => some (m1, ()))
theorem w_X2_copyFrom_38 (l : Launch) (E : EnvT) (N : Nat) (k0 : Nat) (k1 : Nat) (hk0 : kd k0 = 2) (hk1 : kd k1 = 2) (m0 : Mem) : V l E RX2 cX2_copyFrom 3 none (rm_X2_copyFrom) 0 0 (Zm E) rvV (f_X2_copyFrom_38 N k0 k1 m0) m0 38 [(0, .ref (eAd E k0)), (1, .ref (eAd E k1))] [] := by
  unfold f_X2_copyFrom_38
  refine v_aload_n dX2_copyFrom_38 rfl 0 rfl ?_
  refine v_aload_n dX2_copyFrom_39 rfl 1 rfl ?_
  refine gf_X2_count hk1 q247 dX2_copyFrom_40 ?_
  refine pf_X2_count hk0 q247 dX2_copyFrom_43 (fun m1 => ?_)
  exact v_vret dX2_copyFrom_46
def f_X2_copyFrom_2b (N : Nat) (k0 : Nat) (k1 : Nat) (rec_2 : Mem → Int32 → Option (Mem × Unit)) (m0 : Mem) (x2 : Int32) : Option (Mem × Unit) := if (Int32.ofNat (ln (k0 + 1))) ≤ x2 then (f_X2_copyFrom_38 N k0 k1 m0) else (if (Int32.ofNat (ln (k1 + 1))) ≤ x2 then (f_X2_copyFrom_38 N k0 k1 m0) else (gd (inR x2 (ln (k1 + 1))) (gd (inR x2 (ln (k0 + 1))) (lm (up m0 (k0 + 1) (ix x2) (m0 (k1 + 1) (ix x2))) (fun m1 => (rec_2 m1 (x2 + 1)))))))
def f_X2_copyFrom_2 (N : Nat) (k0 : Nat) (k1 : Nat) : Nat → Mem → Int32 → Option (Mem × Unit)
  | 0 => fun _ _ => none
  | n + 1 => f_X2_copyFrom_2b N k0 k1 (f_X2_copyFrom_2 N k0 k1 n)
theorem w_X2_copyFrom_2b (l : Launch) (E : EnvT) (N : Nat) (k0 : Nat) (k1 : Nat) (hk0 : kd k0 = 2) (hk1 : kd k1 = 2) (rec_2 : Mem → Int32 → Option (Mem × Unit)) (hrec_2 : ∀ (m0 : Mem) (x2 : Int32), V l E RX2 cX2_copyFrom 3 none (rm_X2_copyFrom) 0 0 (Zm E) rvV (rec_2 m0 x2) m0 2 [(0, .ref (eAd E k0)), (1, .ref (eAd E k1)), (2, .int x2)] []) (m0 : Mem) (x2 : Int32) : V l E RX2 cX2_copyFrom 3 none (rm_X2_copyFrom) 0 0 (Zm E) rvV (f_X2_copyFrom_2b N k0 k1 rec_2 m0 x2) m0 2 [(0, .ref (eAd E k0)), (1, .ref (eAd E k1)), (2, .int x2)] [] := by
  unfold f_X2_copyFrom_2b
  refine v_iload_n dX2_copyFrom_2 rfl 2 rfl ?_
  refine v_aload_n dX2_copyFrom_3 rfl 0 rfl ?_
  refine gf_X2_items hk0 q246 dX2_copyFrom_4 ?_
  refine v_alenI (v := (Int32.ofNat (ln (k0 + 1)))) (krow hk0) rfl dX2_copyFrom_7 ?_
  refine v_icmp_ge (tgt := 38) dX2_copyFrom_8 (by decide) ?_ ?_
  · refine v_sub [0, 1] rfl ?_
    exact w_X2_copyFrom_38 l E N k0 k1 hk0 hk1 m0
  · refine v_iload_n dX2_copyFrom_11 rfl 2 rfl ?_
    refine v_aload_n dX2_copyFrom_12 rfl 1 rfl ?_
    refine gf_X2_items hk1 q246 dX2_copyFrom_13 ?_
    refine v_alenI (v := (Int32.ofNat (ln (k1 + 1)))) (krow hk1) rfl dX2_copyFrom_16 ?_
    refine v_icmp_ge (tgt := 38) dX2_copyFrom_17 (by decide) ?_ ?_
    · refine v_sub [0, 1] rfl ?_
      exact w_X2_copyFrom_38 l E N k0 k1 hk0 hk1 m0
    · refine v_aload_n dX2_copyFrom_20 rfl 0 rfl ?_
      refine gf_X2_items hk0 q246 dX2_copyFrom_21 ?_
      refine v_iload_n dX2_copyFrom_24 rfl 2 rfl ?_
      refine v_aload_n dX2_copyFrom_25 rfl 1 rfl ?_
      refine gf_X2_items hk1 q246 dX2_copyFrom_26 ?_
      refine v_iload_n dX2_copyFrom_29 rfl 2 rfl ?_
      refine v_gd (fun g30 => ?_)
      refine v_iald (krow hk1) rfl g30 dX2_copyFrom_30 ?_
      refine v_gd (fun g31 => ?_)
      refine v_iast (krow hk0) rfl g31 dX2_copyFrom_31 (fun m1 => ?_)
      refine v_iinc (v := (x2 + 1)) (lv' := [(2, .int (x2 + 1)), (0, .ref (eAd E k0)), (1, .ref (eAd E k1))]) dX2_copyFrom_32 2 rfl rfl (Nat.le_of_ble_eq_true rfl) rfl ?_
      refine v_goto (tgt := 2) dX2_copyFrom_35 (by decide) ?_
      refine v_sub [1, 2, 0] rfl ?_
      exact hrec_2 m1 (x2 + 1)
theorem w_X2_copyFrom_2 (l : Launch) (E : EnvT) (N : Nat) (k0 : Nat) (k1 : Nat) (hk0 : kd k0 = 2) (hk1 : kd k1 = 2) : ∀ (n : Nat) (m0 : Mem) (x2 : Int32), V l E RX2 cX2_copyFrom 3 none (rm_X2_copyFrom) 0 0 (Zm E) rvV (f_X2_copyFrom_2 N k0 k1 n m0 x2) m0 2 [(0, .ref (eAd E k0)), (1, .ref (eAd E k1)), (2, .int x2)] [] := by
  intro n
  induction n with
  | zero => intros; exact v_none
  | succ n ih => exact w_X2_copyFrom_2b l E N k0 k1 hk0 hk1 _ ih
def f_X2_copyFrom (N : Nat) (k0 : Nat) (k1 : Nat) (m0 : Mem) : Option (Mem × Unit) := (f_X2_copyFrom_2 N k0 k1 N m0 0)
theorem c_X2_copyFrom (l : Launch) (E : EnvT) (N : Nat) (k0 : Nat) (k1 : Nat) (hk0 : kd k0 = 2) (hk1 : kd k1 = 2) (m0 : Mem) : CT l E yX2_copyFrom cX2_copyFrom 3 none (rm_X2_copyFrom) rvV (f_X2_copyFrom N k0 k1 m0) [.ref (eAd E k0), .ref (eAd E k1)] m0 := by
  refine CT.ofV (own := RX2) (by decide) rfl (Nat.le_of_ble_eq_true rfl) ?_
  show V l E RX2 cX2_copyFrom 3 none (rm_X2_copyFrom) 0 0 (Zm E) rvV _ m0 0 [(0, .ref (eAd E k0)), (1, .ref (eAd E k1))] []
  unfold f_X2_copyFrom
  refine v_iconst (v := 0) dX2_copyFrom_0 rfl ?_
  refine v_istore_n (lv' := [(2, .int 0), (0, .ref (eAd E k0)), (1, .ref (eAd E k1))]) dX2_copyFrom_1 rfl (Nat.le_of_ble_eq_true rfl) rfl ?_
  refine v_sub [1, 2, 0] rfl ?_
  exact w_X2_copyFrom_2 l E N k0 k1 hk0 hk1 N m0 0

def rm_X3_copyFrom : Room := { frames := 1, cells := 0, slots := 0, locals := 22 }
def f_X3_copyFrom_60b (N : Nat) (k0 : Nat) (k1 : Nat) (rec_60 : Mem → Int32 → Option (Mem × Unit)) (m0 : Mem) (x2 : Int32) : Option (Mem × Unit) := if 48 ≤ x2 then (bm (f_X2_copyFrom N (k0 + 5) (k1 + 5) m0) (fun m1 _ => bm (f_X2_copyFrom N (k0 + 7) (k1 + 7) m1) (fun m2 _ => bm (f_X2_copyFrom N (k0 + 9) (k1 + 9) m2) (fun m3 _ => lm (up m3 k0 8 (m3 k1 8)) (fun m4 => lm (up m4 k0 9 (m4 k1 9)) (fun m5 => lm (up m5 k0 10 (m5 k1 10)) (fun m6 => lm (up m6 k0 11 (m6 k1 11)) (fun m7 => lm (up m7 k0 12 (m7 k1 12)) (fun m8 => lm (up m8 k0 13 (m8 k1 13)) (fun m9 => lm (up m9 k0 14 (m9 k1 14)) (fun m10 => lm (up m10 k0 15 (m10 k1 15)) (fun m11 => gd (isB (m11 k1 16)) (lm (up m11 k0 16 (m11 k1 16)) (fun m12 => some (m12, ()))))))))))))))) else (gd (inR x2 48) (gd (inR x2 48) (lm (up m0 (k0 + 4) (ix x2) (m0 (k1 + 4) (ix x2))) (fun m13 => (rec_60 m13 (x2 + 1))))))
def f_X3_copyFrom_60 (N : Nat) (k0 : Nat) (k1 : Nat) : Nat → Mem → Int32 → Option (Mem × Unit)
  | 0 => fun _ _ => none
  | n + 1 => f_X3_copyFrom_60b N k0 k1 (f_X3_copyFrom_60 N k0 k1 n)
theorem w_X3_copyFrom_60b (l : Launch) (E : EnvT) (N : Nat) (k0 : Nat) (k1 : Nat) (hk0 : isSt k0 = true) (hk1 : isSt k1 = true) (rec_60 : Mem → Int32 → Option (Mem × Unit)) (hrec_60 : ∀ (m0 : Mem) (x2 : Int32), V l E RX3 cX3_copyFrom 3 none (rm_X3_copyFrom) 0 0 (Zm E) rvV (rec_60 m0 x2) m0 60 [(0, .ref (eAd E k0)), (1, .ref (eAd E k1)), (2, .int x2)] []) (m0 : Mem) (x2 : Int32) : V l E RX3 cX3_copyFrom 3 none (rm_X3_copyFrom) 0 0 (Zm E) rvV (f_X3_copyFrom_60b N k0 k1 rec_60 m0 x2) m0 60 [(0, .ref (eAd E k0)), (1, .ref (eAd E k1)), (2, .int x2)] [] := by
  unfold f_X3_copyFrom_60b
  refine v_iload_n dX3_copyFrom_60 rfl 2 rfl ?_
  refine v_bipush (v := 48) dX3_copyFrom_61 rfl ?_
  refine v_icmp_ge (tgt := 84) dX3_copyFrom_63 (by decide) ?_ ?_
  · refine v_aload_n dX3_copyFrom_84 rfl 0 rfl ?_
    refine gf_X3_answers (kst hk0) q264 dX3_copyFrom_85 ?_
    refine v_aload_n dX3_copyFrom_88 rfl 1 rfl ?_
    refine gf_X3_answers (kst hk1) q264 dX3_copyFrom_89 ?_
    refine v_callVv (q := (k0 + 5)) (ci := 2) (C := RX2) (T := TX2) (NN := 2) (As := [.ref (eAd E (k1 + 5))]) (rest := []) (c_X2_copyFrom l E N (k0 + 5) (k1 + 5) (kst5 hk0) (kst5 hk1) m0) kv_X2_copyFrom (kst5 hk0) (by decide) rfl q407 ⟨rfl, rfl⟩ ⟨Nat.le_of_ble_eq_true rfl, Nat.le_of_ble_eq_true rfl⟩ ⟨Nat.zero_le _, Nat.zero_le _⟩ rfl rfl (Nat.le_of_ble_eq_true rfl) dX3_copyFrom_92 (fun m1 _ => ?_)
    refine v_aload_n dX3_copyFrom_95 rfl 0 rfl ?_
    refine gf_X3_faults (kst hk0) q266 dX3_copyFrom_96 ?_
    refine v_aload_n dX3_copyFrom_99 rfl 1 rfl ?_
    refine gf_X3_faults (kst hk1) q266 dX3_copyFrom_100 ?_
    refine v_callVv (q := (k0 + 7)) (ci := 2) (C := RX2) (T := TX2) (NN := 2) (As := [.ref (eAd E (k1 + 7))]) (rest := []) (c_X2_copyFrom l E N (k0 + 7) (k1 + 7) (kst7 hk0) (kst7 hk1) m1) kv_X2_copyFrom (kst7 hk0) (by decide) rfl q407 ⟨rfl, rfl⟩ ⟨Nat.le_of_ble_eq_true rfl, Nat.le_of_ble_eq_true rfl⟩ ⟨Nat.zero_le _, Nat.zero_le _⟩ rfl rfl (Nat.le_of_ble_eq_true rfl) dX3_copyFrom_103 (fun m2 _ => ?_)
    refine v_aload_n dX3_copyFrom_106 rfl 0 rfl ?_
    refine gf_X3_pending (kst hk0) q268 dX3_copyFrom_107 ?_
    refine v_aload_n dX3_copyFrom_110 rfl 1 rfl ?_
    refine gf_X3_pending (kst hk1) q268 dX3_copyFrom_111 ?_
    refine v_callVv (q := (k0 + 9)) (ci := 2) (C := RX2) (T := TX2) (NN := 2) (As := [.ref (eAd E (k1 + 9))]) (rest := []) (c_X2_copyFrom l E N (k0 + 9) (k1 + 9) (kst9 hk0) (kst9 hk1) m2) kv_X2_copyFrom (kst9 hk0) (by decide) rfl q407 ⟨rfl, rfl⟩ ⟨Nat.le_of_ble_eq_true rfl, Nat.le_of_ble_eq_true rfl⟩ ⟨Nat.zero_le _, Nat.zero_le _⟩ rfl rfl (Nat.le_of_ble_eq_true rfl) dX3_copyFrom_114 (fun m3 _ => ?_)
    refine v_aload_n dX3_copyFrom_117 rfl 0 rfl ?_
    refine v_aload_n dX3_copyFrom_118 rfl 1 rfl ?_
    refine gf_X3_events (kst hk1) q270 dX3_copyFrom_119 ?_
    refine pf_X3_events (kst hk0) q270 dX3_copyFrom_122 (fun m4 => ?_)
    refine v_aload_n dX3_copyFrom_125 rfl 0 rfl ?_
    refine v_aload_n dX3_copyFrom_126 rfl 1 rfl ?_
    refine gf_X3_eventMask (kst hk1) q271 dX3_copyFrom_127 ?_
    refine pf_X3_eventMask (kst hk0) q271 dX3_copyFrom_130 (fun m5 => ?_)
    refine v_aload_n dX3_copyFrom_133 rfl 0 rfl ?_
    refine v_aload_n dX3_copyFrom_134 rfl 1 rfl ?_
    refine gf_X3_serviceMask (kst hk1) q272 dX3_copyFrom_135 ?_
    refine pf_X3_serviceMask (kst hk0) q272 dX3_copyFrom_138 (fun m6 => ?_)
    refine v_aload_n dX3_copyFrom_141 rfl 0 rfl ?_
    refine v_aload_n dX3_copyFrom_142 rfl 1 rfl ?_
    refine gf_X3_conditions (kst hk1) q273 dX3_copyFrom_143 ?_
    refine pf_X3_conditions (kst hk0) q273 dX3_copyFrom_146 (fun m7 => ?_)
    refine v_aload_n dX3_copyFrom_149 rfl 0 rfl ?_
    refine v_aload_n dX3_copyFrom_150 rfl 1 rfl ?_
    refine gf_X3_edges (kst hk1) q275 dX3_copyFrom_151 ?_
    refine pf_X3_edges (kst hk0) q275 dX3_copyFrom_154 (fun m8 => ?_)
    refine v_aload_n dX3_copyFrom_157 rfl 0 rfl ?_
    refine v_aload_n dX3_copyFrom_158 rfl 1 rfl ?_
    refine gf_X3_rises (kst hk1) q277 dX3_copyFrom_159 ?_
    refine pf_X3_rises (kst hk0) q277 dX3_copyFrom_162 (fun m9 => ?_)
    refine v_aload_n dX3_copyFrom_165 rfl 0 rfl ?_
    refine v_aload_n dX3_copyFrom_166 rfl 1 rfl ?_
    refine gf_X3_falls (kst hk1) q278 dX3_copyFrom_167 ?_
    refine pf_X3_falls (kst hk0) q278 dX3_copyFrom_170 (fun m10 => ?_)
    refine v_aload_n dX3_copyFrom_173 rfl 0 rfl ?_
    refine v_aload_n dX3_copyFrom_174 rfl 1 rfl ?_
    refine gf_X3_enable (kst hk1) q279 dX3_copyFrom_175 ?_
    refine pf_X3_enable (kst hk0) q279 dX3_copyFrom_178 (fun m11 => ?_)
    refine v_aload_n dX3_copyFrom_181 rfl 0 rfl ?_
    refine v_aload_n dX3_copyFrom_182 rfl 1 rfl ?_
    refine gf_X3_isWaiting (kst hk1) q280 dX3_copyFrom_183 ?_
    refine v_gd (fun g186 => ?_)
    refine pf_X3_isWaiting (kst hk0) q280 g186 dX3_copyFrom_186 (fun m12 => ?_)
    exact v_vret dX3_copyFrom_189
  · refine v_aload_n dX3_copyFrom_66 rfl 0 rfl ?_
    refine gf_X3_numbers (kst hk0) q263 dX3_copyFrom_67 ?_
    refine v_iload_n dX3_copyFrom_70 rfl 2 rfl ?_
    refine v_aload_n dX3_copyFrom_71 rfl 1 rfl ?_
    refine gf_X3_numbers (kst hk1) q263 dX3_copyFrom_72 ?_
    refine v_iload_n dX3_copyFrom_75 rfl 2 rfl ?_
    refine v_gd (fun g76 => ?_)
    refine v_iald (kst4 hk1) (lst4 hk1) g76 dX3_copyFrom_76 ?_
    refine v_gd (fun g77 => ?_)
    refine v_iast (kst4 hk0) (lst4 hk0) g77 dX3_copyFrom_77 (fun m13 => ?_)
    refine v_iinc (v := (x2 + 1)) (lv' := [(2, .int (x2 + 1)), (0, .ref (eAd E k0)), (1, .ref (eAd E k1))]) dX3_copyFrom_78 2 rfl rfl (Nat.le_of_ble_eq_true rfl) rfl ?_
    refine v_goto (tgt := 60) dX3_copyFrom_81 (by decide) ?_
    refine v_sub [1, 2, 0] rfl ?_
    exact hrec_60 m13 (x2 + 1)
theorem w_X3_copyFrom_60 (l : Launch) (E : EnvT) (N : Nat) (k0 : Nat) (k1 : Nat) (hk0 : isSt k0 = true) (hk1 : isSt k1 = true) : ∀ (n : Nat) (m0 : Mem) (x2 : Int32), V l E RX3 cX3_copyFrom 3 none (rm_X3_copyFrom) 0 0 (Zm E) rvV (f_X3_copyFrom_60 N k0 k1 n m0 x2) m0 60 [(0, .ref (eAd E k0)), (1, .ref (eAd E k1)), (2, .int x2)] [] := by
  intro n
  induction n with
  | zero => intros; exact v_none
  | succ n ih => exact w_X3_copyFrom_60b l E N k0 k1 hk0 hk1 _ ih
def f_X3_copyFrom_10b (N : Nat) (k0 : Nat) (k1 : Nat) (rec_10 : Mem → Int32 → Option (Mem × Unit)) (m0 : Mem) (x2 : Int32) : Option (Mem × Unit) := if 16 ≤ x2 then (f_X3_copyFrom_60 N k0 k1 N m0 0) else (gd (inR x2 16) (gd (inR x2 16) (lm (up m0 (k0 + 1) (ix x2) (m0 (k1 + 1) (ix x2))) (fun m1 => gd (inR x2 16) (gd (inR x2 16) (lm (up m1 (k0 + 2) (ix x2) (m1 (k1 + 2) (ix x2))) (fun m2 => gd (inR x2 16) (gd (inR x2 16) (lm (up m2 (k0 + 3) (ix x2) (m2 (k1 + 3) (ix x2))) (fun m3 => (rec_10 m3 (x2 + 1))))))))))))
def f_X3_copyFrom_10 (N : Nat) (k0 : Nat) (k1 : Nat) : Nat → Mem → Int32 → Option (Mem × Unit)
  | 0 => fun _ _ => none
  | n + 1 => f_X3_copyFrom_10b N k0 k1 (f_X3_copyFrom_10 N k0 k1 n)
theorem w_X3_copyFrom_10b (l : Launch) (E : EnvT) (N : Nat) (k0 : Nat) (k1 : Nat) (hk0 : isSt k0 = true) (hk1 : isSt k1 = true) (rec_10 : Mem → Int32 → Option (Mem × Unit)) (hrec_10 : ∀ (m0 : Mem) (x2 : Int32), V l E RX3 cX3_copyFrom 3 none (rm_X3_copyFrom) 0 0 (Zm E) rvV (rec_10 m0 x2) m0 10 [(0, .ref (eAd E k0)), (1, .ref (eAd E k1)), (2, .int x2)] []) (m0 : Mem) (x2 : Int32) : V l E RX3 cX3_copyFrom 3 none (rm_X3_copyFrom) 0 0 (Zm E) rvV (f_X3_copyFrom_10b N k0 k1 rec_10 m0 x2) m0 10 [(0, .ref (eAd E k0)), (1, .ref (eAd E k1)), (2, .int x2)] [] := by
  unfold f_X3_copyFrom_10b
  refine v_iload_n dX3_copyFrom_10 rfl 2 rfl ?_
  refine v_bipush (v := 16) dX3_copyFrom_11 rfl ?_
  refine v_icmp_ge (tgt := 58) dX3_copyFrom_13 (by decide) ?_ ?_
  · refine v_iconst (v := 0) dX3_copyFrom_58 rfl ?_
    refine v_istore_n (lv' := [(2, .int 0), (0, .ref (eAd E k0)), (1, .ref (eAd E k1))]) dX3_copyFrom_59 rfl (Nat.le_of_ble_eq_true rfl) rfl ?_
    refine v_sub [1, 2, 0] rfl ?_
    exact w_X3_copyFrom_60 l E N k0 k1 hk0 hk1 N m0 0
  · refine v_aload_n dX3_copyFrom_16 rfl 0 rfl ?_
    refine gf_X3_low (kst hk0) q257 dX3_copyFrom_17 ?_
    refine v_iload_n dX3_copyFrom_20 rfl 2 rfl ?_
    refine v_aload_n dX3_copyFrom_21 rfl 1 rfl ?_
    refine gf_X3_low (kst hk1) q257 dX3_copyFrom_22 ?_
    refine v_iload_n dX3_copyFrom_25 rfl 2 rfl ?_
    refine v_gd (fun g26 => ?_)
    refine v_iald (kst1 hk1) (lst1 hk1) g26 dX3_copyFrom_26 ?_
    refine v_gd (fun g27 => ?_)
    refine v_iast (kst1 hk0) (lst1 hk0) g27 dX3_copyFrom_27 (fun m1 => ?_)
    refine v_aload_n dX3_copyFrom_28 rfl 0 rfl ?_
    refine gf_X3_high (kst hk0) q259 dX3_copyFrom_29 ?_
    refine v_iload_n dX3_copyFrom_32 rfl 2 rfl ?_
    refine v_aload_n dX3_copyFrom_33 rfl 1 rfl ?_
    refine gf_X3_high (kst hk1) q259 dX3_copyFrom_34 ?_
    refine v_iload_n dX3_copyFrom_37 rfl 2 rfl ?_
    refine v_gd (fun g38 => ?_)
    refine v_iald (kst2 hk1) (lst2 hk1) g38 dX3_copyFrom_38 ?_
    refine v_gd (fun g39 => ?_)
    refine v_iast (kst2 hk0) (lst2 hk0) g39 dX3_copyFrom_39 (fun m2 => ?_)
    refine v_aload_n dX3_copyFrom_40 rfl 0 rfl ?_
    refine gf_X3_timesDone (kst hk0) q261 dX3_copyFrom_41 ?_
    refine v_iload_n dX3_copyFrom_44 rfl 2 rfl ?_
    refine v_aload_n dX3_copyFrom_45 rfl 1 rfl ?_
    refine gf_X3_timesDone (kst hk1) q261 dX3_copyFrom_46 ?_
    refine v_iload_n dX3_copyFrom_49 rfl 2 rfl ?_
    refine v_gd (fun g50 => ?_)
    refine v_iald (kst3 hk1) (lst3 hk1) g50 dX3_copyFrom_50 ?_
    refine v_gd (fun g51 => ?_)
    refine v_iast (kst3 hk0) (lst3 hk0) g51 dX3_copyFrom_51 (fun m3 => ?_)
    refine v_iinc (v := (x2 + 1)) (lv' := [(2, .int (x2 + 1)), (0, .ref (eAd E k0)), (1, .ref (eAd E k1))]) dX3_copyFrom_52 2 rfl rfl (Nat.le_of_ble_eq_true rfl) rfl ?_
    refine v_goto (tgt := 10) dX3_copyFrom_55 (by decide) ?_
    refine v_sub [1, 2, 0] rfl ?_
    exact hrec_10 m3 (x2 + 1)
theorem w_X3_copyFrom_10 (l : Launch) (E : EnvT) (N : Nat) (k0 : Nat) (k1 : Nat) (hk0 : isSt k0 = true) (hk1 : isSt k1 = true) : ∀ (n : Nat) (m0 : Mem) (x2 : Int32), V l E RX3 cX3_copyFrom 3 none (rm_X3_copyFrom) 0 0 (Zm E) rvV (f_X3_copyFrom_10 N k0 k1 n m0 x2) m0 10 [(0, .ref (eAd E k0)), (1, .ref (eAd E k1)), (2, .int x2)] [] := by
  intro n
  induction n with
  | zero => intros; exact v_none
  | succ n ih => exact w_X3_copyFrom_10b l E N k0 k1 hk0 hk1 _ ih
def f_X3_copyFrom (N : Nat) (k0 : Nat) (k1 : Nat) (m0 : Mem) : Option (Mem × Unit) := lm (up m0 k0 0 (m0 k1 0)) (fun m1 => (f_X3_copyFrom_10 N k0 k1 N m1 0))
theorem c_X3_copyFrom (l : Launch) (E : EnvT) (N : Nat) (k0 : Nat) (k1 : Nat) (hk0 : isSt k0 = true) (hk1 : isSt k1 = true) (m0 : Mem) : CT l E yX3_copyFrom cX3_copyFrom 3 none (rm_X3_copyFrom) rvV (f_X3_copyFrom N k0 k1 m0) [.ref (eAd E k0), .ref (eAd E k1)] m0 := by
  refine CT.ofV (own := RX3) (by decide) rfl (Nat.le_of_ble_eq_true rfl) ?_
  show V l E RX3 cX3_copyFrom 3 none (rm_X3_copyFrom) 0 0 (Zm E) rvV _ m0 0 [(0, .ref (eAd E k0)), (1, .ref (eAd E k1))] []
  unfold f_X3_copyFrom
  refine v_aload_n dX3_copyFrom_0 rfl 0 rfl ?_
  refine v_aload_n dX3_copyFrom_1 rfl 1 rfl ?_
  refine gf_X3_nodes (kst hk1) q255 dX3_copyFrom_2 ?_
  refine pf_X3_nodes (kst hk0) q255 dX3_copyFrom_5 (fun m1 => ?_)
  refine v_iconst (v := 0) dX3_copyFrom_8 rfl ?_
  refine v_istore_n (lv' := [(2, .int 0), (0, .ref (eAd E k0)), (1, .ref (eAd E k1))]) dX3_copyFrom_9 rfl (Nat.le_of_ble_eq_true rfl) rfl ?_
  refine v_sub [1, 2, 0] rfl ?_
  exact w_X3_copyFrom_10 l E N k0 k1 hk0 hk1 N m1 0

def rm_X0_keep : Room := { frames := 2, cells := 0, slots := 0, locals := 44 }
def f_X0_keep_12 (N : Nat) (k1 : Nat) (m0 : Mem) : Option (Mem × Unit) := gd (inR (m0 54 1) 5) (gd (isSt (ix (m0 55 (ix (m0 54 1))))) (bm (f_X3_copyFrom N (ix (m0 55 (ix (m0 54 1)))) k1 m0) (fun m1 _ => lm (up m1 54 1 ((m1 54 1) + 1)) (fun m2 => some (m2, ())))))
theorem w_X0_keep_12 (l : Launch) (E : EnvT) (N : Nat) (k1 : Nat) (hk1 : isSt k1 = true) (m0 : Mem) : V l E RX0 cX0_keep 2 none (rm_X0_keep) 0 0 (Zm E) rvV (f_X0_keep_12 N k1 m0) m0 12 [(0, .ref (eAd E 54)), (1, .ref (eAd E k1))] [] := by
  unfold f_X0_keep_12
  refine v_aload_n dX0_keep_12 rfl 0 rfl ?_
  refine gf_X0_kept kc54 q325 dX0_keep_13 ?_
  refine v_aload_n dX0_keep_16 rfl 0 rfl ?_
  refine gf_X0_count kc54 q326 dX0_keep_17 ?_
  refine v_gd (fun g20 => ?_)
  refine v_gd (fun g20s => ?_)
  refine v_aldS g20 dX0_keep_20 ?_
  refine v_aload_n dX0_keep_21 rfl 1 rfl ?_
  refine v_callVv (q := (ix (m0 55 (ix (m0 54 1))))) (ci := 3) (C := RX3) (T := TX3) (NN := 17) (As := [.ref (eAd E k1)]) (rest := []) (c_X3_copyFrom l E N (ix (m0 55 (ix (m0 54 1)))) k1 g20s hk1 m0) kv_X3_copyFrom (kst g20s) (by decide) rfl q403 ⟨rfl, rfl⟩ ⟨Nat.le_of_ble_eq_true rfl, Nat.le_of_ble_eq_true rfl⟩ ⟨Nat.zero_le _, Nat.zero_le _⟩ rfl rfl (Nat.le_of_ble_eq_true rfl) dX0_keep_22 (fun m1 _ => ?_)
  refine v_aload_n dX0_keep_25 rfl 0 rfl ?_
  refine v_dup dX0_keep_26 rfl ?_
  refine gf_X0_count kc54 q326 dX0_keep_27 ?_
  refine v_iconst (v := 1) dX0_keep_30 rfl ?_
  refine v_iadd dX0_keep_31 ?_
  refine pf_X0_count kc54 q326 dX0_keep_32 (fun m2 => ?_)
  exact v_vret dX0_keep_35
def f_X0_keep (N : Nat) (k1 : Nat) (m0 : Mem) : Option (Mem × Unit) := if (m0 54 1) < 5 then (f_X0_keep_12 N k1 m0) else (bm (f_X0_dropOldest N m0) (fun m1 _ => (f_X0_keep_12 N k1 m1)))
theorem c_X0_keep (l : Launch) (E : EnvT) (N : Nat) (k1 : Nat) (hk1 : isSt k1 = true) (m0 : Mem) : CT l E yX0_keep cX0_keep 2 none (rm_X0_keep) rvV (f_X0_keep N k1 m0) [.ref (eAd E 54), .ref (eAd E k1)] m0 := by
  refine CT.ofV (own := RX0) (by decide) rfl (Nat.le_of_ble_eq_true rfl) ?_
  show V l E RX0 cX0_keep 2 none (rm_X0_keep) 0 0 (Zm E) rvV _ m0 0 [(0, .ref (eAd E 54)), (1, .ref (eAd E k1))] []
  unfold f_X0_keep
  refine v_aload_n dX0_keep_0 rfl 0 rfl ?_
  refine gf_X0_count kc54 q326 dX0_keep_1 ?_
  refine v_iconst (v := 5) dX0_keep_4 rfl ?_
  refine v_icmp_lt (tgt := 12) dX0_keep_5 (by decide) ?_ ?_
  · exact w_X0_keep_12 l E N k1 hk1 m0
  · refine v_aload_n dX0_keep_8 rfl 0 rfl ?_
    refine v_callVv (q := 54) (ci := 0) (C := RX0) (T := TX0) (NN := 2) (As := []) (rest := []) (c_X0_dropOldest l E N m0) kv_X0_dropOldest kc54 (by decide) rfl q399 ⟨rfl, rfl⟩ ⟨Nat.le_of_ble_eq_true rfl, Nat.le_of_ble_eq_true rfl⟩ ⟨Nat.zero_le _, Nat.zero_le _⟩ rfl rfl (Nat.le_of_ble_eq_true rfl) dX0_keep_9 (fun m1 _ => ?_)
    exact w_X0_keep_12 l E N k1 hk1 m1

def rm_X4_capitalAt : Room := { frames := 0, cells := 0, slots := 0, locals := 0 }
def f_X4_capitalAt_28 (m0 : Mem) (s0 : Int32) : Option (Mem × Int32) := if s0 < 97 then (some (m0, s0)) else (if 122 < s0 then (some (m0, s0)) else (some (m0, ((s0 - 97) + 65))))
theorem w_X4_capitalAt_28 (l : Launch) (E : EnvT) (m0 : Mem) (s0 : Int32) : V l E RX4 cX4_capitalAt 3 (some .int) (rm_X4_capitalAt) 0 0 (Zm E) rvI (f_X4_capitalAt_28 m0 s0) m0 28 [] [.int s0] := by
  unfold f_X4_capitalAt_28
  refine v_istore_n (lv' := [(2, .int s0)]) dX4_capitalAt_28 rfl (Nat.le_of_ble_eq_true rfl) rfl ?_
  refine v_iload_n dX4_capitalAt_29 rfl 0 rfl ?_
  refine v_bipush (v := 97) dX4_capitalAt_30 rfl ?_
  refine v_icmp_lt (tgt := 51) dX4_capitalAt_32 (by decide) ?_ ?_
  · refine v_iload_n dX4_capitalAt_51 rfl 0 rfl ?_
    exact v_iret dX4_capitalAt_52
  · refine v_iload_n dX4_capitalAt_35 rfl 0 rfl ?_
    refine v_bipush (v := 122) dX4_capitalAt_36 rfl ?_
    refine v_icmp_gt (tgt := 51) dX4_capitalAt_38 (by decide) ?_ ?_
    · refine v_iload_n dX4_capitalAt_51 rfl 0 rfl ?_
      exact v_iret dX4_capitalAt_52
    · refine v_iload_n dX4_capitalAt_41 rfl 0 rfl ?_
      refine v_bipush (v := 97) dX4_capitalAt_42 rfl ?_
      refine v_isub dX4_capitalAt_44 ?_
      refine v_bipush (v := 65) dX4_capitalAt_45 rfl ?_
      refine v_iadd dX4_capitalAt_47 ?_
      refine v_goto (tgt := 52) dX4_capitalAt_48 (by decide) ?_
      exact v_iret dX4_capitalAt_52
def f_X4_capitalAt_27 (m0 : Mem) : Option (Mem × Int32) := (f_X4_capitalAt_28 m0 (-1))
theorem w_X4_capitalAt_27 (l : Launch) (E : EnvT) (m0 : Mem) : V l E RX4 cX4_capitalAt 3 (some .int) (rm_X4_capitalAt) 0 0 (Zm E) rvI (f_X4_capitalAt_27 m0) m0 27 [] [] := by
  unfold f_X4_capitalAt_27
  refine v_iconst (v := (-1)) dX4_capitalAt_27 rfl ?_
  exact w_X4_capitalAt_28 l E m0 (-1)
def f_X4_capitalAt (m0 : Mem) (x1 : Int32) : Option (Mem × Int32) := if x1 < 0 then (f_X4_capitalAt_27 m0) else (if (m0 1 1) ≤ x1 then (f_X4_capitalAt_27 m0) else (if 100 ≤ x1 then (f_X4_capitalAt_27 m0) else (gd (inR x1 100) ((f_X4_capitalAt_28 m0 (m0 2 (ix x1)))))))
theorem c_X4_capitalAt (l : Launch) (E : EnvT) (m0 : Mem) (x1 : Int32) : CT l E yX4_capitalAt cX4_capitalAt 3 (some .int) (rm_X4_capitalAt) rvI (f_X4_capitalAt m0 x1) [.ref (eAd E 1), .int x1] m0 := by
  refine CT.ofV (own := RX4) (by decide) rfl (Nat.le_of_ble_eq_true rfl) ?_
  show V l E RX4 cX4_capitalAt 3 (some .int) (rm_X4_capitalAt) 0 0 (Zm E) rvI _ m0 0 [(0, .ref (eAd E 1)), (1, .int x1)] []
  unfold f_X4_capitalAt
  refine v_iload_n dX4_capitalAt_0 rfl 1 rfl ?_
  refine v_if_lt (tgt := 27) dX4_capitalAt_1 (by decide) ?_ ?_
  · refine v_sub [] rfl ?_
    exact w_X4_capitalAt_27 l E m0
  · refine v_iload_n dX4_capitalAt_4 rfl 1 rfl ?_
    refine v_aload_n dX4_capitalAt_5 rfl 0 rfl ?_
    refine gf_X4_length kc1 q100 dX4_capitalAt_6 ?_
    refine v_icmp_ge (tgt := 27) dX4_capitalAt_9 (by decide) ?_ ?_
    · refine v_sub [] rfl ?_
      exact w_X4_capitalAt_27 l E m0
    · refine v_iload_n dX4_capitalAt_12 rfl 1 rfl ?_
      refine v_bipush (v := 100) dX4_capitalAt_13 rfl ?_
      refine v_icmp_ge (tgt := 27) dX4_capitalAt_15 (by decide) ?_ ?_
      · refine v_sub [] rfl ?_
        exact w_X4_capitalAt_27 l E m0
      · refine v_aload_n dX4_capitalAt_18 rfl 0 rfl ?_
        refine gf_X4_bytes kc1 q99 dX4_capitalAt_19 ?_
        refine v_iload_n dX4_capitalAt_22 rfl 1 rfl ?_
        refine v_gd (fun g23 => ?_)
        refine v_bald kc2 rfl g23 dX4_capitalAt_23 ?_
        refine v_goto (tgt := 28) dX4_capitalAt_24 (by decide) ?_
        refine v_sub [] rfl ?_
        exact w_X4_capitalAt_28 l E m0 (m0 2 (ix x1))

def rm_X1_takeName : Room := { frames := 2, cells := 0, slots := 0, locals := 43 }
def f_X1_takeName_19b (N : Nat) (k0 : Nat) (rec_19 : Mem → Int32 → Option (Mem × Unit)) (m0 : Mem) (x2 : Int32) : Option (Mem × Unit) := if (m0 k0 5) ≤ x2 then (some (m0, ())) else (if 8 ≤ x2 then (some (m0, ())) else (bm (f_X4_capitalAt m0 x2) (fun m1 r1 => gd (inR x2 8) (lm (up m1 (k0 + 1) (ix x2) (vp_nar .byte (r1.toInt8.toInt32))) (fun m2 => (rec_19 m2 (x2 + 1)))))))
def f_X1_takeName_19 (N : Nat) (k0 : Nat) : Nat → Mem → Int32 → Option (Mem × Unit)
  | 0 => fun _ _ => none
  | n + 1 => f_X1_takeName_19b N k0 (f_X1_takeName_19 N k0 n)
theorem w_X1_takeName_19b (l : Launch) (E : EnvT) (N : Nat) (k0 : Nat) (hk0 : kd k0 = 1) (rec_19 : Mem → Int32 → Option (Mem × Unit)) (hrec_19 : ∀ (m0 : Mem) (x2 : Int32), V l E RX1 cX1_takeName 3 none (rm_X1_takeName) 0 0 (Zm E) rvV (rec_19 m0 x2) m0 19 [(0, .ref (eAd E k0)), (1, .ref (eAd E 1)), (2, .int x2)] []) (m0 : Mem) (x2 : Int32) : V l E RX1 cX1_takeName 3 none (rm_X1_takeName) 0 0 (Zm E) rvV (f_X1_takeName_19b N k0 rec_19 m0 x2) m0 19 [(0, .ref (eAd E k0)), (1, .ref (eAd E 1)), (2, .int x2)] [] := by
  unfold f_X1_takeName_19b
  refine v_iload_n dX1_takeName_19 rfl 2 rfl ?_
  refine v_aload_n dX1_takeName_20 rfl 0 rfl ?_
  refine gf_X1_longLength hk0 q135 dX1_takeName_21 ?_
  refine v_icmp_ge (tgt := 51) dX1_takeName_24 (by decide) ?_ ?_
  · exact v_vret dX1_takeName_51
  · refine v_iload_n dX1_takeName_27 rfl 2 rfl ?_
    refine v_bipush (v := 8) dX1_takeName_28 rfl ?_
    refine v_icmp_ge (tgt := 51) dX1_takeName_30 (by decide) ?_ ?_
    · exact v_vret dX1_takeName_51
    · refine v_aload_n dX1_takeName_33 rfl 0 rfl ?_
      refine gf_X1_capitals hk0 q137 dX1_takeName_34 ?_
      refine v_iload_n dX1_takeName_37 rfl 2 rfl ?_
      refine v_aload_n dX1_takeName_38 rfl 1 rfl ?_
      refine v_iload_n dX1_takeName_39 rfl 2 rfl ?_
      refine v_callVi (q := 1) (ci := 4) (C := RX4) (T := TX4) (NN := 2) (As := [.int x2]) (rest := [.int x2, .ref (eAd E (k0 + 1))]) (c_X4_capitalAt l E m0 x2) kv_X4_capitalAt kc1 (by decide) rfl q416 ⟨rfl, rfl⟩ ⟨Nat.le_of_ble_eq_true rfl, Nat.le_of_ble_eq_true rfl⟩ ⟨Nat.zero_le _, Nat.zero_le _⟩ rfl rfl (Nat.le_of_ble_eq_true rfl) dX1_takeName_40 (fun m1 r1 => ?_)
      refine v_i2b dX1_takeName_43 ?_
      refine v_gd (fun g44 => ?_)
      refine v_bast (knode hk0) (lnode hk0) g44 dX1_takeName_44 (fun m2 => ?_)
      refine v_iinc (v := (x2 + 1)) (lv' := [(2, .int (x2 + 1)), (0, .ref (eAd E k0)), (1, .ref (eAd E 1))]) dX1_takeName_45 2 rfl rfl (Nat.le_of_ble_eq_true rfl) rfl ?_
      refine v_goto (tgt := 19) dX1_takeName_48 (by decide) ?_
      refine v_sub [1, 2, 0] rfl ?_
      exact hrec_19 m2 (x2 + 1)
theorem w_X1_takeName_19 (l : Launch) (E : EnvT) (N : Nat) (k0 : Nat) (hk0 : kd k0 = 1) : ∀ (n : Nat) (m0 : Mem) (x2 : Int32), V l E RX1 cX1_takeName 3 none (rm_X1_takeName) 0 0 (Zm E) rvV (f_X1_takeName_19 N k0 n m0 x2) m0 19 [(0, .ref (eAd E k0)), (1, .ref (eAd E 1)), (2, .int x2)] [] := by
  intro n
  induction n with
  | zero => intros; exact v_none
  | succ n ih => exact w_X1_takeName_19b l E N k0 hk0 _ ih
def f_X1_takeName (N : Nat) (k0 : Nat) (m0 : Mem) : Option (Mem × Unit) := bm (f_X4_pastCapitals N m0 0) (fun m1 r1 => lm (up m1 k0 4 r1) (fun m2 => lm (up m2 k0 5 (m2 1 1)) (fun m3 => (f_X1_takeName_19 N k0 N m3 0))))
theorem c_X1_takeName (l : Launch) (E : EnvT) (N : Nat) (k0 : Nat) (hk0 : kd k0 = 1) (m0 : Mem) : CT l E yX1_takeName cX1_takeName 3 none (rm_X1_takeName) rvV (f_X1_takeName N k0 m0) [.ref (eAd E k0), .ref (eAd E 1)] m0 := by
  refine CT.ofV (own := RX1) (by decide) rfl (Nat.le_of_ble_eq_true rfl) ?_
  show V l E RX1 cX1_takeName 3 none (rm_X1_takeName) 0 0 (Zm E) rvV _ m0 0 [(0, .ref (eAd E k0)), (1, .ref (eAd E 1))] []
  unfold f_X1_takeName
  refine v_aload_n dX1_takeName_0 rfl 0 rfl ?_
  refine v_aload_n dX1_takeName_1 rfl 1 rfl ?_
  refine v_iconst (v := 0) dX1_takeName_2 rfl ?_
  refine v_callVi (q := 1) (ci := 4) (C := RX4) (T := TX4) (NN := 2) (As := [.int 0]) (rest := [.ref (eAd E k0)]) (c_X4_pastCapitals l E N m0 0) kv_X4_pastCapitals kc1 (by decide) rfl q415 ⟨rfl, rfl⟩ ⟨Nat.le_of_ble_eq_true rfl, Nat.le_of_ble_eq_true rfl⟩ ⟨Nat.zero_le _, Nat.zero_le _⟩ rfl rfl (Nat.le_of_ble_eq_true rfl) dX1_takeName_3 (fun m1 r1 => ?_)
  refine pf_X1_shortLength hk0 q133 dX1_takeName_6 (fun m2 => ?_)
  refine v_aload_n dX1_takeName_9 rfl 0 rfl ?_
  refine v_aload_n dX1_takeName_10 rfl 1 rfl ?_
  refine gf_X4_length kc1 q101 dX1_takeName_11 ?_
  refine pf_X1_longLength hk0 q135 dX1_takeName_14 (fun m3 => ?_)
  refine v_iconst (v := 0) dX1_takeName_17 rfl ?_
  refine v_istore_n (lv' := [(2, .int 0), (0, .ref (eAd E k0)), (1, .ref (eAd E 1))]) dX1_takeName_18 rfl (Nat.le_of_ble_eq_true rfl) rfl ?_
  refine v_sub [1, 2, 0] rfl ?_
  exact w_X1_takeName_19 l E N k0 hk0 N m3 0

def rm_X3_putNumber : Room := { frames := 1, cells := 0, slots := 0, locals := 22 }
def f_X3_putNumber (k0 : Nat) (m0 : Mem) (x1 : Int32) (x2 : Int32) (x3 : Int32) : Option (Mem × Unit) := bm (f_X8_isWithin m0 (((x1 * 3) + x2) - 1) 0 (48 - 1)) (fun m1 r1 => if r1 = 0 then (some (m1, ())) else (gd (inR (((x1 * 3) + x2) - 1) 48) (lm (up m1 (k0 + 4) (ix (((x1 * 3) + x2) - 1)) x3) (fun m2 => some (m2, ())))))
theorem c_X3_putNumber (l : Launch) (E : EnvT) (k0 : Nat) (hk0 : isSt k0 = true) (m0 : Mem) (x1 : Int32) (x2 : Int32) (x3 : Int32) : CT l E yX3_putNumber cX3_putNumber 5 none (rm_X3_putNumber) rvV (f_X3_putNumber k0 m0 x1 x2 x3) [.ref (eAd E k0), .int x1, .int x2, .int x3] m0 := by
  refine CT.ofV (own := RX3) (by decide) rfl (Nat.le_of_ble_eq_true rfl) ?_
  show V l E RX3 cX3_putNumber 5 none (rm_X3_putNumber) 0 0 (Zm E) rvV _ m0 0 [(0, .ref (eAd E k0)), (1, .int x1), (2, .int x2), (3, .int x3)] []
  unfold f_X3_putNumber
  refine v_iload_n dX3_putNumber_0 rfl 1 rfl ?_
  refine v_iconst (v := 3) dX3_putNumber_1 rfl ?_
  refine v_imul dX3_putNumber_2 ?_
  refine v_iload_n dX3_putNumber_3 rfl 2 rfl ?_
  refine v_iadd dX3_putNumber_4 ?_
  refine v_iconst (v := 1) dX3_putNumber_5 rfl ?_
  refine v_isub dX3_putNumber_6 ?_
  refine v_istore (lv' := [(4, .int (((x1 * 3) + x2) - 1)), (0, .ref (eAd E k0)), (1, .int x1), (2, .int x2), (3, .int x3)]) dX3_putNumber_7 (Nat.le_of_ble_eq_true rfl) rfl ?_
  refine v_iload dX3_putNumber_9 0 rfl ?_
  refine v_iconst (v := 0) dX3_putNumber_11 rfl ?_
  refine v_aload_n dX3_putNumber_12 rfl 1 rfl ?_
  refine gf_X3_numbers (kst hk0) q263 dX3_putNumber_13 ?_
  refine v_alenI (v := 48) (kst4 hk0) (congrArg Int32.ofNat (lst4 hk0)) dX3_putNumber_16 ?_
  refine v_iconst (v := 1) dX3_putNumber_17 rfl ?_
  refine v_isub dX3_putNumber_18 ?_
  refine v_callSNi (As := [.int (((x1 * 3) + x2) - 1), .int 0, .int (48 - 1)]) (rest := []) (c_X8_isWithin l E m0 (((x1 * 3) + x2) - 1) 0 (48 - 1)) ks_X8_isWithin nq432 ⟨rfl, rfl⟩ ⟨Nat.le_of_ble_eq_true rfl, Nat.le_of_ble_eq_true rfl⟩ ⟨Nat.zero_le _, Nat.zero_le _⟩ rfl rfl (Nat.le_of_ble_eq_true rfl) dX3_putNumber_19 (fun m1 r1 => ?_)
  refine v_if_eq (tgt := 33) dX3_putNumber_22 (by decide) ?_ ?_
  · exact v_vret dX3_putNumber_33
  · refine v_aload_n dX3_putNumber_25 rfl 1 rfl ?_
    refine gf_X3_numbers (kst hk0) q263 dX3_putNumber_26 ?_
    refine v_iload dX3_putNumber_29 0 rfl ?_
    refine v_iload_n dX3_putNumber_31 rfl 4 rfl ?_
    refine v_gd (fun g32 => ?_)
    refine v_iast (kst4 hk0) (lst4 hk0) g32 dX3_putNumber_32 (fun m2 => ?_)
    exact v_vret dX3_putNumber_33

def rm_X3_lowerNumbers : Room := { frames := 2, cells := 0, slots := 0, locals := 46 }
def f_X3_lowerNumbers_2b (N : Nat) (k0 : Nat) (rec_2 : Mem → Int32 → Int32 → Option (Mem × Unit)) (m0 : Mem) (x1 : Int32) (x2 : Int32) : Option (Mem × Unit) := if 3 < x2 then (some (m0, ())) else (gd (inR x1 16) (bm (f_X3_putNumber k0 m0 x1 x2 (m0 (k0 + 1) (ix x1))) (fun m1 _ => (rec_2 m1 x1 (x2 + 1)))))
def f_X3_lowerNumbers_2 (N : Nat) (k0 : Nat) : Nat → Mem → Int32 → Int32 → Option (Mem × Unit)
  | 0 => fun _ _ _ => none
  | n + 1 => f_X3_lowerNumbers_2b N k0 (f_X3_lowerNumbers_2 N k0 n)
theorem w_X3_lowerNumbers_2b (l : Launch) (E : EnvT) (N : Nat) (k0 : Nat) (hk0 : isSt k0 = true) (rec_2 : Mem → Int32 → Int32 → Option (Mem × Unit)) (hrec_2 : ∀ (m0 : Mem) (x1 : Int32) (x2 : Int32), V l E RX3 cX3_lowerNumbers 3 none (rm_X3_lowerNumbers) 0 0 (Zm E) rvV (rec_2 m0 x1 x2) m0 2 [(0, .ref (eAd E k0)), (1, .int x1), (2, .int x2)] []) (m0 : Mem) (x1 : Int32) (x2 : Int32) : V l E RX3 cX3_lowerNumbers 3 none (rm_X3_lowerNumbers) 0 0 (Zm E) rvV (f_X3_lowerNumbers_2b N k0 rec_2 m0 x1 x2) m0 2 [(0, .ref (eAd E k0)), (1, .int x1), (2, .int x2)] [] := by
  unfold f_X3_lowerNumbers_2b
  refine v_iload_n dX3_lowerNumbers_2 rfl 2 rfl ?_
  refine v_iconst (v := 3) dX3_lowerNumbers_3 rfl ?_
  refine v_icmp_gt (tgt := 25) dX3_lowerNumbers_4 (by decide) ?_ ?_
  · exact v_vret dX3_lowerNumbers_25
  · refine v_aload_n dX3_lowerNumbers_7 rfl 0 rfl ?_
    refine v_iload_n dX3_lowerNumbers_8 rfl 1 rfl ?_
    refine v_iload_n dX3_lowerNumbers_9 rfl 2 rfl ?_
    refine v_aload_n dX3_lowerNumbers_10 rfl 0 rfl ?_
    refine gf_X3_low (kst hk0) q257 dX3_lowerNumbers_11 ?_
    refine v_iload_n dX3_lowerNumbers_14 rfl 1 rfl ?_
    refine v_gd (fun g15 => ?_)
    refine v_iald (kst1 hk0) (lst1 hk0) g15 dX3_lowerNumbers_15 ?_
    refine v_callVv (q := k0) (ci := 3) (C := RX3) (T := TX3) (NN := 17) (As := [.int x1, .int x2, .int (m0 (k0 + 1) (ix x1))]) (rest := []) (c_X3_putNumber l E k0 hk0 m0 x1 x2 (m0 (k0 + 1) (ix x1))) kv_X3_putNumber (kst hk0) (by decide) rfl q428 ⟨rfl, rfl⟩ ⟨Nat.le_of_ble_eq_true rfl, Nat.le_of_ble_eq_true rfl⟩ ⟨Nat.zero_le _, Nat.zero_le _⟩ rfl rfl (Nat.le_of_ble_eq_true rfl) dX3_lowerNumbers_16 (fun m1 _ => ?_)
    refine v_iinc (v := (x2 + 1)) (lv' := [(2, .int (x2 + 1)), (0, .ref (eAd E k0)), (1, .int x1)]) dX3_lowerNumbers_19 2 rfl rfl (Nat.le_of_ble_eq_true rfl) rfl ?_
    refine v_goto (tgt := 2) dX3_lowerNumbers_22 (by decide) ?_
    refine v_sub [1, 2, 0] rfl ?_
    exact hrec_2 m1 x1 (x2 + 1)
theorem w_X3_lowerNumbers_2 (l : Launch) (E : EnvT) (N : Nat) (k0 : Nat) (hk0 : isSt k0 = true) : ∀ (n : Nat) (m0 : Mem) (x1 : Int32) (x2 : Int32), V l E RX3 cX3_lowerNumbers 3 none (rm_X3_lowerNumbers) 0 0 (Zm E) rvV (f_X3_lowerNumbers_2 N k0 n m0 x1 x2) m0 2 [(0, .ref (eAd E k0)), (1, .int x1), (2, .int x2)] [] := by
  intro n
  induction n with
  | zero => intros; exact v_none
  | succ n ih => exact w_X3_lowerNumbers_2b l E N k0 hk0 _ ih
def f_X3_lowerNumbers (N : Nat) (k0 : Nat) (m0 : Mem) (x1 : Int32) : Option (Mem × Unit) := (f_X3_lowerNumbers_2 N k0 N m0 x1 1)
theorem c_X3_lowerNumbers (l : Launch) (E : EnvT) (N : Nat) (k0 : Nat) (hk0 : isSt k0 = true) (m0 : Mem) (x1 : Int32) : CT l E yX3_lowerNumbers cX3_lowerNumbers 3 none (rm_X3_lowerNumbers) rvV (f_X3_lowerNumbers N k0 m0 x1) [.ref (eAd E k0), .int x1] m0 := by
  refine CT.ofV (own := RX3) (by decide) rfl (Nat.le_of_ble_eq_true rfl) ?_
  show V l E RX3 cX3_lowerNumbers 3 none (rm_X3_lowerNumbers) 0 0 (Zm E) rvV _ m0 0 [(0, .ref (eAd E k0)), (1, .int x1)] []
  unfold f_X3_lowerNumbers
  refine v_iconst (v := 1) dX3_lowerNumbers_0 rfl ?_
  refine v_istore_n (lv' := [(2, .int 1), (0, .ref (eAd E k0)), (1, .int x1)]) dX3_lowerNumbers_1 rfl (Nat.le_of_ble_eq_true rfl) rfl ?_
  refine v_sub [1, 2, 0] rfl ?_
  exact w_X3_lowerNumbers_2 l E N k0 hk0 N m0 x1 1

def rm_X3_addNode : Room := { frames := 3, cells := 0, slots := 0, locals := 68 }
def f_X3_addNode (N : Nat) (k0 : Nat) (m0 : Mem) (x1 : Int32) : Option (Mem × Unit) := if (m0 k0 0) < 0 then (some (m0, ())) else (if 16 ≤ (m0 k0 0) then (some (m0, ())) else (gd (inR (m0 k0 0) 16) (lm (up m0 (k0 + 1) (ix (m0 k0 0)) 0) (fun m1 => gd (inR (m1 k0 0) 16) (lm (up m1 (k0 + 2) (ix (m1 k0 0)) x1) (fun m2 => gd (inR (m2 k0 0) 16) (lm (up m2 (k0 + 3) (ix (m2 k0 0)) 0) (fun m3 => bm (f_X3_lowerNumbers N k0 m3 (m3 k0 0)) (fun m4 _ => lm (up m4 k0 0 ((m4 k0 0) + 1)) (fun m5 => some (m5, ())))))))))))
theorem c_X3_addNode (l : Launch) (E : EnvT) (N : Nat) (k0 : Nat) (hk0 : isSt k0 = true) (m0 : Mem) (x1 : Int32) : CT l E yX3_addNode cX3_addNode 2 none (rm_X3_addNode) rvV (f_X3_addNode N k0 m0 x1) [.ref (eAd E k0), .int x1] m0 := by
  refine CT.ofV (own := RX3) (by decide) rfl (Nat.le_of_ble_eq_true rfl) ?_
  show V l E RX3 cX3_addNode 2 none (rm_X3_addNode) 0 0 (Zm E) rvV _ m0 0 [(0, .ref (eAd E k0)), (1, .int x1)] []
  unfold f_X3_addNode
  refine v_aload_n dX3_addNode_0 rfl 0 rfl ?_
  refine gf_X3_nodes (kst hk0) q255 dX3_addNode_1 ?_
  refine v_if_lt (tgt := 64) dX3_addNode_4 (by decide) ?_ ?_
  · exact v_vret dX3_addNode_64
  · refine v_aload_n dX3_addNode_7 rfl 0 rfl ?_
    refine gf_X3_nodes (kst hk0) q255 dX3_addNode_8 ?_
    refine v_bipush (v := 16) dX3_addNode_11 rfl ?_
    refine v_icmp_ge (tgt := 64) dX3_addNode_13 (by decide) ?_ ?_
    · exact v_vret dX3_addNode_64
    · refine v_aload_n dX3_addNode_16 rfl 0 rfl ?_
      refine gf_X3_low (kst hk0) q257 dX3_addNode_17 ?_
      refine v_aload_n dX3_addNode_20 rfl 0 rfl ?_
      refine gf_X3_nodes (kst hk0) q255 dX3_addNode_21 ?_
      refine v_iconst (v := 0) dX3_addNode_24 rfl ?_
      refine v_gd (fun g25 => ?_)
      refine v_iast (kst1 hk0) (lst1 hk0) g25 dX3_addNode_25 (fun m1 => ?_)
      refine v_aload_n dX3_addNode_26 rfl 0 rfl ?_
      refine gf_X3_high (kst hk0) q259 dX3_addNode_27 ?_
      refine v_aload_n dX3_addNode_30 rfl 0 rfl ?_
      refine gf_X3_nodes (kst hk0) q255 dX3_addNode_31 ?_
      refine v_iload_n dX3_addNode_34 rfl 1 rfl ?_
      refine v_gd (fun g35 => ?_)
      refine v_iast (kst2 hk0) (lst2 hk0) g35 dX3_addNode_35 (fun m2 => ?_)
      refine v_aload_n dX3_addNode_36 rfl 0 rfl ?_
      refine gf_X3_timesDone (kst hk0) q261 dX3_addNode_37 ?_
      refine v_aload_n dX3_addNode_40 rfl 0 rfl ?_
      refine gf_X3_nodes (kst hk0) q255 dX3_addNode_41 ?_
      refine v_iconst (v := 0) dX3_addNode_44 rfl ?_
      refine v_gd (fun g45 => ?_)
      refine v_iast (kst3 hk0) (lst3 hk0) g45 dX3_addNode_45 (fun m3 => ?_)
      refine v_aload_n dX3_addNode_46 rfl 0 rfl ?_
      refine v_aload_n dX3_addNode_47 rfl 0 rfl ?_
      refine gf_X3_nodes (kst hk0) q255 dX3_addNode_48 ?_
      refine v_callVv (q := k0) (ci := 3) (C := RX3) (T := TX3) (NN := 17) (As := [.int (m3 k0 0)]) (rest := []) (c_X3_lowerNumbers l E N k0 hk0 m3 (m3 k0 0)) kv_X3_lowerNumbers (kst hk0) (by decide) rfl q424 ⟨rfl, rfl⟩ ⟨Nat.le_of_ble_eq_true rfl, Nat.le_of_ble_eq_true rfl⟩ ⟨Nat.zero_le _, Nat.zero_le _⟩ rfl rfl (Nat.le_of_ble_eq_true rfl) dX3_addNode_51 (fun m4 _ => ?_)
      refine v_aload_n dX3_addNode_54 rfl 0 rfl ?_
      refine v_dup dX3_addNode_55 rfl ?_
      refine gf_X3_nodes (kst hk0) q255 dX3_addNode_56 ?_
      refine v_iconst (v := 1) dX3_addNode_59 rfl ?_
      refine v_iadd dX3_addNode_60 ?_
      refine pf_X3_nodes (kst hk0) q255 dX3_addNode_61 (fun m5 => ?_)
      exact v_vret dX3_addNode_64

def rm_X8_node : Room := { frames := 4, cells := 0, slots := 0, locals := 89 }
def f_X8_node_36 (N : Nat) (m0 : Mem) : Option (Mem × Int32) := bm (f_X8_refuse m0 (-10002)) (fun m1 r1 => some (m1, r1))
theorem w_X8_node_36 (l : Launch) (E : EnvT) (N : Nat) (m0 : Mem) : V l E RX8 cX8_node 7 (some .int) (rm_X8_node) 0 0 (Zm E) rvI (f_X8_node_36 N m0) m0 36 [(0, .ref (eAd E 0))] [] := by
  unfold f_X8_node_36
  refine v_aload_n dX8_node_36 rfl 0 rfl ?_
  refine v_sipush (v := (-10002)) dX8_node_37 rfl ?_
  refine v_callVi (q := 0) (ci := 8) (C := RX8) (T := TX8) (NN := 8) (As := [.int (-10002)]) (rest := []) (c_X8_refuse l E m0 (-10002)) kv_X8_refuse kc0 (by decide) rfl q373 ⟨rfl, rfl⟩ ⟨Nat.le_of_ble_eq_true rfl, Nat.le_of_ble_eq_true rfl⟩ ⟨Nat.zero_le _, Nat.zero_le _⟩ rfl rfl (Nat.le_of_ble_eq_true rfl) dX8_node_40 (fun m1 r1 => ?_)
  exact v_iret dX8_node_43
def f_X8_node_164 (N : Nat) (m0 : Mem) (x5 : Int32) (s1 : Int32) : Option (Mem × Int32) := bm (f_X3_addNode N 43 m0 s1) (fun m1 _ => some (m1, x5))
theorem w_X8_node_164 (l : Launch) (E : EnvT) (N : Nat) (m0 : Mem) (x5 : Int32) (s1 : Int32) : V l E RX8 cX8_node 7 (some .int) (rm_X8_node) 0 0 (Zm E) rvI (f_X8_node_164 N m0 x5 s1) m0 164 [(5, .int x5)] [.int s1, .ref (eAd E 43)] := by
  unfold f_X8_node_164
  refine v_callVv (q := 43) (ci := 3) (C := RX3) (T := TX3) (NN := 17) (As := [.int s1]) (rest := []) (c_X3_addNode l E N 43 st43 m0 s1) kv_X3_addNode kc43 (by decide) rfl q420 ⟨rfl, rfl⟩ ⟨Nat.le_of_ble_eq_true rfl, Nat.le_of_ble_eq_true rfl⟩ ⟨Nat.zero_le _, Nat.zero_le _⟩ rfl rfl (Nat.le_of_ble_eq_true rfl) dX8_node_164 (fun m1 _ => ?_)
  refine v_iload dX8_node_167 0 rfl ?_
  exact v_iret dX8_node_169
def f_X8_node (N : Nat) (m0 : Mem) (x1 : Int32) (x2 : Int32) (x3 : Int32) (x4 : Int32) : Option (Mem × Int32) := bm (f_X8_isParent m0 x1) (fun m1 r1 => if r1 = 0 then (f_X8_node_36 N m1) else (bm (f_X8_isWithin m1 x2 0 3) (fun m2 r2 => if r2 = 0 then (f_X8_node_36 N m2) else (bm (f_X8_isWithin m2 x3 0 3) (fun m3 r3 => if r3 = 0 then (f_X8_node_36 N m3) else (bm (f_X8_isWithin m3 x4 0 1) (fun m4 r4 => if r4 = 0 then (f_X8_node_36 N m4) else (bm (f_X4_isName N m4) (fun m5 r5 => if r5 = 0 then (bm (f_X8_refuse m5 (-10003)) (fun m13 r13 => some (m13, r13))) else (if (m5 43 0) < 16 then (bm (f_X0_keep N 43 m5) (fun m6 _ => gd (inR (m6 43 0) 16) (lm (up m6 (6 + 2 * ix (m6 43 0)) 0 x1) (fun m7 => lm (up m7 (6 + 2 * ix (m6 43 0)) 1 x2) (fun m8 => lm (up m8 (6 + 2 * ix (m6 43 0)) 2 x3) (fun m9 => lm (up m9 (6 + 2 * ix (m6 43 0)) 3 x4) (fun m10 => bm (f_X1_takeName N (6 + 2 * ix (m6 43 0)) m10) (fun m11 _ => if x2 = 1 then (f_X8_node_164 N m11 (m6 43 0) 9999) else (f_X8_node_164 N m11 (m6 43 0) 0))))))))) else (bm (f_X8_refuse m5 (-10004)) (fun m12 r12 => some (m12, r12)))))))))))))
theorem c_X8_node (l : Launch) (E : EnvT) (N : Nat) (m0 : Mem) (x1 : Int32) (x2 : Int32) (x3 : Int32) (x4 : Int32) : CT l E yX8_node cX8_node 7 (some .int) (rm_X8_node) rvI (f_X8_node N m0 x1 x2 x3 x4) [.ref (eAd E 0), .int x1, .int x2, .int x3, .int x4] m0 := by
  refine CT.ofV (own := RX8) (by decide) rfl (Nat.le_of_ble_eq_true rfl) ?_
  show V l E RX8 cX8_node 7 (some .int) (rm_X8_node) 0 0 (Zm E) rvI _ m0 0 [(0, .ref (eAd E 0)), (1, .int x1), (2, .int x2), (3, .int x3), (4, .int x4)] []
  unfold f_X8_node
  refine v_aload_n dX8_node_0 rfl 0 rfl ?_
  refine v_iload_n dX8_node_1 rfl 1 rfl ?_
  refine v_callVi (q := 0) (ci := 8) (C := RX8) (T := TX8) (NN := 8) (As := [.int x1]) (rest := []) (c_X8_isParent l E m0 x1) kv_X8_isParent kc0 (by decide) rfl q362 ⟨rfl, rfl⟩ ⟨Nat.le_of_ble_eq_true rfl, Nat.le_of_ble_eq_true rfl⟩ ⟨Nat.zero_le _, Nat.zero_le _⟩ rfl rfl (Nat.le_of_ble_eq_true rfl) dX8_node_2 (fun m1 r1 => ?_)
  refine v_if_eq (tgt := 36) dX8_node_5 (by decide) ?_ ?_
  · refine v_sub [0] rfl ?_
    exact w_X8_node_36 l E N m1
  · refine v_iload_n dX8_node_8 rfl 2 rfl ?_
    refine v_iconst (v := 0) dX8_node_9 rfl ?_
    refine v_iconst (v := 3) dX8_node_10 rfl ?_
    refine v_callSi (As := [.int x2, .int 0, .int 3]) (rest := []) (c_X8_isWithin l E m1 x2 0 3) ks_X8_isWithin q370 ⟨rfl, rfl⟩ ⟨Nat.le_of_ble_eq_true rfl, Nat.le_of_ble_eq_true rfl⟩ ⟨Nat.zero_le _, Nat.zero_le _⟩ rfl rfl (Nat.le_of_ble_eq_true rfl) dX8_node_11 (fun m2 r2 => ?_)
    refine v_if_eq (tgt := 36) dX8_node_14 (by decide) ?_ ?_
    · refine v_sub [0] rfl ?_
      exact w_X8_node_36 l E N m2
    · refine v_iload_n dX8_node_17 rfl 3 rfl ?_
      refine v_iconst (v := 0) dX8_node_18 rfl ?_
      refine v_iconst (v := 3) dX8_node_19 rfl ?_
      refine v_callSi (As := [.int x3, .int 0, .int 3]) (rest := []) (c_X8_isWithin l E m2 x3 0 3) ks_X8_isWithin q370 ⟨rfl, rfl⟩ ⟨Nat.le_of_ble_eq_true rfl, Nat.le_of_ble_eq_true rfl⟩ ⟨Nat.zero_le _, Nat.zero_le _⟩ rfl rfl (Nat.le_of_ble_eq_true rfl) dX8_node_20 (fun m3 r3 => ?_)
      refine v_if_eq (tgt := 36) dX8_node_23 (by decide) ?_ ?_
      · refine v_sub [0] rfl ?_
        exact w_X8_node_36 l E N m3
      · refine v_iload dX8_node_26 4 rfl ?_
        refine v_iconst (v := 0) dX8_node_28 rfl ?_
        refine v_iconst (v := 1) dX8_node_29 rfl ?_
        refine v_callSi (As := [.int x4, .int 0, .int 1]) (rest := []) (c_X8_isWithin l E m3 x4 0 1) ks_X8_isWithin q370 ⟨rfl, rfl⟩ ⟨Nat.le_of_ble_eq_true rfl, Nat.le_of_ble_eq_true rfl⟩ ⟨Nat.zero_le _, Nat.zero_le _⟩ rfl rfl (Nat.le_of_ble_eq_true rfl) dX8_node_30 (fun m4 r4 => ?_)
        refine v_if_ne (tgt := 44) dX8_node_33 (by decide) ?_ ?_
        · refine v_aload_n dX8_node_44 rfl 0 rfl ?_
          refine gf_X8_text kc0 q333 dX8_node_45 ?_
          refine v_callVi (q := 1) (ci := 4) (C := RX4) (T := TX4) (NN := 2) (As := []) (rest := []) (c_X4_isName l E N m4) kv_X4_isName kc1 (by decide) rfl q377 ⟨rfl, rfl⟩ ⟨Nat.le_of_ble_eq_true rfl, Nat.le_of_ble_eq_true rfl⟩ ⟨Nat.zero_le _, Nat.zero_le _⟩ rfl rfl (Nat.le_of_ble_eq_true rfl) dX8_node_48 (fun m5 r5 => ?_)
          refine v_if_ne (tgt := 62) dX8_node_51 (by decide) ?_ ?_
          · refine v_aload_n dX8_node_62 rfl 0 rfl ?_
            refine gf_X8_now kc0 q336 dX8_node_63 ?_
            refine gf_X3_nodes kc43 q256 dX8_node_66 ?_
            refine v_bipush (v := 16) dX8_node_69 rfl ?_
            refine v_icmp_lt (tgt := 82) dX8_node_71 (by decide) ?_ ?_
            · refine v_aload_n dX8_node_82 rfl 0 rfl ?_
              refine gf_X8_history kc0 q337 dX8_node_83 ?_
              refine v_aload_n dX8_node_86 rfl 0 rfl ?_
              refine gf_X8_now kc0 q336 dX8_node_87 ?_
              refine v_callVv (q := 54) (ci := 0) (C := RX0) (T := TX0) (NN := 2) (As := [.ref (eAd E 43)]) (rest := []) (c_X0_keep l E N 43 st43 m5) kv_X0_keep kc54 (by decide) rfl q395 ⟨rfl, rfl⟩ ⟨Nat.le_of_ble_eq_true rfl, Nat.le_of_ble_eq_true rfl⟩ ⟨Nat.zero_le _, Nat.zero_le _⟩ rfl rfl (Nat.le_of_ble_eq_true rfl) dX8_node_90 (fun m6 _ => ?_)
              refine v_aload_n dX8_node_93 rfl 0 rfl ?_
              refine gf_X8_now kc0 q336 dX8_node_94 ?_
              refine gf_X3_nodes kc43 q256 dX8_node_97 ?_
              refine v_istore (lv' := [(5, .int (m6 43 0)), (0, .ref (eAd E 0)), (1, .int x1), (2, .int x2), (3, .int x3), (4, .int x4)]) dX8_node_100 (Nat.le_of_ble_eq_true rfl) rfl ?_
              refine v_aload_n dX8_node_102 rfl 1 rfl ?_
              refine gf_X8_tree kc0 q334 dX8_node_103 ?_
              refine gf_X5_nodes kc3 q155 dX8_node_106 ?_
              refine v_iload dX8_node_109 0 rfl ?_
              refine v_gd (fun g111 => ?_)
              refine v_aldN g111 dX8_node_111 ?_
              refine v_astore (lv' := [(6, .ref (eAd E (6 + 2 * ix (m6 43 0)))), (5, .int (m6 43 0)), (0, .ref (eAd E 0)), (1, .int x1), (2, .int x2), (3, .int x3), (4, .int x4)]) dX8_node_112 (Nat.le_of_ble_eq_true rfl) rfl ?_
              refine v_aload dX8_node_114 0 rfl ?_
              refine v_iload_n dX8_node_116 rfl 3 rfl ?_
              refine pf_X1_parent (knd g111) q123 dX8_node_117 (fun m7 => ?_)
              refine v_aload dX8_node_120 0 rfl ?_
              refine v_iload_n dX8_node_122 rfl 4 rfl ?_
              refine pf_X1_kind (knd g111) q126 dX8_node_123 (fun m8 => ?_)
              refine v_aload dX8_node_126 0 rfl ?_
              refine v_iload_n dX8_node_128 rfl 5 rfl ?_
              refine pf_X1_most (knd g111) q129 dX8_node_129 (fun m9 => ?_)
              refine v_aload dX8_node_132 0 rfl ?_
              refine v_iload dX8_node_134 6 rfl ?_
              refine pf_X1_leftOut (knd g111) q131 dX8_node_136 (fun m10 => ?_)
              refine v_aload dX8_node_139 0 rfl ?_
              refine v_aload_n dX8_node_141 rfl 2 rfl ?_
              refine gf_X8_text kc0 q333 dX8_node_142 ?_
              refine v_callVv (q := (6 + 2 * ix (m6 43 0))) (ci := 1) (C := RX1) (T := TX1) (NN := 7) (As := [.ref (eAd E 1)]) (rest := []) (c_X1_takeName l E N (6 + 2 * ix (m6 43 0)) (knd g111) m10) kv_X1_takeName (knd g111) (by decide) rfl q411 ⟨rfl, rfl⟩ ⟨Nat.le_of_ble_eq_true rfl, Nat.le_of_ble_eq_true rfl⟩ ⟨Nat.zero_le _, Nat.zero_le _⟩ rfl rfl (Nat.le_of_ble_eq_true rfl) dX8_node_145 (fun m11 _ => ?_)
              refine v_aload_n dX8_node_148 rfl 2 rfl ?_
              refine gf_X8_now kc0 q336 dX8_node_149 ?_
              refine v_iload_n dX8_node_152 rfl 4 rfl ?_
              refine v_iconst (v := 1) dX8_node_153 rfl ?_
              refine v_icmp_ne (tgt := 163) dX8_node_154 (by decide) ?_ ?_
              · refine v_iconst (v := 0) dX8_node_163 rfl ?_
                refine v_sub [1] rfl ?_
                exact w_X8_node_164 l E N m11 (m6 43 0) 0
              · refine v_sipush (v := 9999) dX8_node_157 rfl ?_
                refine v_goto (tgt := 164) dX8_node_160 (by decide) ?_
                refine v_sub [1] rfl ?_
                exact w_X8_node_164 l E N m11 (m6 43 0) 9999
            · refine v_aload_n dX8_node_74 rfl 0 rfl ?_
              refine v_sipush (v := (-10004)) dX8_node_75 rfl ?_
              refine v_callVi (q := 0) (ci := 8) (C := RX8) (T := TX8) (NN := 8) (As := [.int (-10004)]) (rest := []) (c_X8_refuse l E m5 (-10004)) kv_X8_refuse kc0 (by decide) rfl q373 ⟨rfl, rfl⟩ ⟨Nat.le_of_ble_eq_true rfl, Nat.le_of_ble_eq_true rfl⟩ ⟨Nat.zero_le _, Nat.zero_le _⟩ rfl rfl (Nat.le_of_ble_eq_true rfl) dX8_node_78 (fun m12 r12 => ?_)
              exact v_iret dX8_node_81
          · refine v_aload_n dX8_node_54 rfl 0 rfl ?_
            refine v_sipush (v := (-10003)) dX8_node_55 rfl ?_
            refine v_callVi (q := 0) (ci := 8) (C := RX8) (T := TX8) (NN := 8) (As := [.int (-10003)]) (rest := []) (c_X8_refuse l E m5 (-10003)) kv_X8_refuse kc0 (by decide) rfl q373 ⟨rfl, rfl⟩ ⟨Nat.le_of_ble_eq_true rfl, Nat.le_of_ble_eq_true rfl⟩ ⟨Nat.zero_le _, Nat.zero_le _⟩ rfl rfl (Nat.le_of_ble_eq_true rfl) dX8_node_58 (fun m13 r13 => ?_)
            exact v_iret dX8_node_61
        · refine v_sub [0] rfl ?_
          exact w_X8_node_36 l E N m4

def rm_X8_isValueNode : Room := { frames := 1, cells := 0, slots := 0, locals := 21 }
def f_X8_isValueNode (m0 : Mem) (x1 : Int32) : Option (Mem × Int32) := bm (f_X8_isNode m0 x1) (fun m1 r1 => if r1 = 0 then (some (m1, 0)) else (gd (inR x1 16) (if (m1 (6 + 2 * ix x1) 1) = 1 then (some (m1, 1)) else (some (m1, 0)))))
theorem c_X8_isValueNode (l : Launch) (E : EnvT) (m0 : Mem) (x1 : Int32) : CT l E yX8_isValueNode cX8_isValueNode 2 (some .boolean) (rm_X8_isValueNode) rvI (f_X8_isValueNode m0 x1) [.ref (eAd E 0), .int x1] m0 := by
  refine CT.ofV (own := RX8) (by decide) rfl (Nat.le_of_ble_eq_true rfl) ?_
  show V l E RX8 cX8_isValueNode 2 (some .boolean) (rm_X8_isValueNode) 0 0 (Zm E) rvI _ m0 0 [(0, .ref (eAd E 0)), (1, .int x1)] []
  unfold f_X8_isValueNode
  refine v_aload_n dX8_isValueNode_0 rfl 0 rfl ?_
  refine v_iload_n dX8_isValueNode_1 rfl 1 rfl ?_
  refine v_callVi (q := 0) (ci := 8) (C := RX8) (T := TX8) (NN := 8) (As := [.int x1]) (rest := []) (c_X8_isNode l E m0 x1) kv_X8_isNode kc0 (by decide) rfl q366 ⟨rfl, rfl⟩ ⟨Nat.le_of_ble_eq_true rfl, Nat.le_of_ble_eq_true rfl⟩ ⟨Nat.zero_le _, Nat.zero_le _⟩ rfl rfl (Nat.le_of_ble_eq_true rfl) dX8_isValueNode_2 (fun m1 r1 => ?_)
  refine v_if_eq (tgt := 28) dX8_isValueNode_5 (by decide) ?_ ?_
  · refine v_iconst (v := 0) dX8_isValueNode_28 rfl ?_
    exact v_zret rfl dX8_isValueNode_29
  · refine v_aload_n dX8_isValueNode_8 rfl 0 rfl ?_
    refine gf_X8_tree kc0 q334 dX8_isValueNode_9 ?_
    refine gf_X5_nodes kc3 q155 dX8_isValueNode_12 ?_
    refine v_iload_n dX8_isValueNode_15 rfl 1 rfl ?_
    refine v_gd (fun g16 => ?_)
    refine v_aldN g16 dX8_isValueNode_16 ?_
    refine gf_X1_kind (knd g16) q126 dX8_isValueNode_17 ?_
    refine v_iconst (v := 1) dX8_isValueNode_20 rfl ?_
    refine v_icmp_ne (tgt := 28) dX8_isValueNode_21 (by decide) ?_ ?_
    · refine v_iconst (v := 0) dX8_isValueNode_28 rfl ?_
      exact v_zret rfl dX8_isValueNode_29
    · refine v_iconst (v := 1) dX8_isValueNode_24 rfl ?_
      refine v_goto (tgt := 29) dX8_isValueNode_25 (by decide) ?_
      exact v_zret rfl dX8_isValueNode_29

def rm_X8_range : Room := { frames := 3, cells := 0, slots := 0, locals := 68 }
def f_X8_range_32 (N : Nat) (m0 : Mem) : Option (Mem × Int32) := bm (f_X8_refuse m0 (-10002)) (fun m1 r1 => some (m1, r1))
theorem w_X8_range_32 (l : Launch) (E : EnvT) (N : Nat) (m0 : Mem) : V l E RX8 cX8_range 5 (some .int) (rm_X8_range) 0 0 (Zm E) rvI (f_X8_range_32 N m0) m0 32 [(0, .ref (eAd E 0))] [] := by
  unfold f_X8_range_32
  refine v_aload_n dX8_range_32 rfl 0 rfl ?_
  refine v_sipush (v := (-10002)) dX8_range_33 rfl ?_
  refine v_callVi (q := 0) (ci := 8) (C := RX8) (T := TX8) (NN := 8) (As := [.int (-10002)]) (rest := []) (c_X8_refuse l E m0 (-10002)) kv_X8_refuse kc0 (by decide) rfl q373 ⟨rfl, rfl⟩ ⟨Nat.le_of_ble_eq_true rfl, Nat.le_of_ble_eq_true rfl⟩ ⟨Nat.zero_le _, Nat.zero_le _⟩ rfl rfl (Nat.le_of_ble_eq_true rfl) dX8_range_36 (fun m1 r1 => ?_)
  exact v_iret dX8_range_39
def f_X8_range (N : Nat) (m0 : Mem) (x1 : Int32) (x2 : Int32) (x3 : Int32) : Option (Mem × Int32) := bm (f_X8_isValueNode m0 x1) (fun m1 r1 => if r1 = 0 then (f_X8_range_32 N m1) else (bm (f_X8_isWithin m1 x2 (-9999) 9999) (fun m2 r2 => if r2 = 0 then (f_X8_range_32 N m2) else (bm (f_X8_isWithin m2 x3 x2 9999) (fun m3 r3 => if r3 = 0 then (f_X8_range_32 N m3) else (bm (f_X0_keep N 43 m3) (fun m4 _ => gd (inR x1 16) (gd (inR x1 16) (lm (up m4 44 (ix x1) x2) (fun m5 => gd (inR x1 16) (lm (up m5 45 (ix x1) x3) (fun m6 => bm (f_X3_lowerNumbers N 43 m6 x1) (fun m7 _ => some (m7, (m4 44 (ix x1))))))))))))))))
theorem c_X8_range (l : Launch) (E : EnvT) (N : Nat) (m0 : Mem) (x1 : Int32) (x2 : Int32) (x3 : Int32) : CT l E yX8_range cX8_range 5 (some .int) (rm_X8_range) rvI (f_X8_range N m0 x1 x2 x3) [.ref (eAd E 0), .int x1, .int x2, .int x3] m0 := by
  refine CT.ofV (own := RX8) (by decide) rfl (Nat.le_of_ble_eq_true rfl) ?_
  show V l E RX8 cX8_range 5 (some .int) (rm_X8_range) 0 0 (Zm E) rvI _ m0 0 [(0, .ref (eAd E 0)), (1, .int x1), (2, .int x2), (3, .int x3)] []
  unfold f_X8_range
  refine v_aload_n dX8_range_0 rfl 0 rfl ?_
  refine v_iload_n dX8_range_1 rfl 1 rfl ?_
  refine v_callVi (q := 0) (ci := 8) (C := RX8) (T := TX8) (NN := 8) (As := [.int x1]) (rest := []) (c_X8_isValueNode l E m0 x1) kv_X8_isValueNode kc0 (by decide) rfl q437 ⟨rfl, rfl⟩ ⟨Nat.le_of_ble_eq_true rfl, Nat.le_of_ble_eq_true rfl⟩ ⟨Nat.zero_le _, Nat.zero_le _⟩ rfl rfl (Nat.le_of_ble_eq_true rfl) dX8_range_2 (fun m1 r1 => ?_)
  refine v_if_eq (tgt := 32) dX8_range_5 (by decide) ?_ ?_
  · refine v_sub [0] rfl ?_
    exact w_X8_range_32 l E N m1
  · refine v_iload_n dX8_range_8 rfl 2 rfl ?_
    refine v_sipush (v := (-9999)) dX8_range_9 rfl ?_
    refine v_sipush (v := 9999) dX8_range_12 rfl ?_
    refine v_callSi (As := [.int x2, .int (-9999), .int 9999]) (rest := []) (c_X8_isWithin l E m1 x2 (-9999) 9999) ks_X8_isWithin q370 ⟨rfl, rfl⟩ ⟨Nat.le_of_ble_eq_true rfl, Nat.le_of_ble_eq_true rfl⟩ ⟨Nat.zero_le _, Nat.zero_le _⟩ rfl rfl (Nat.le_of_ble_eq_true rfl) dX8_range_15 (fun m2 r2 => ?_)
    refine v_if_eq (tgt := 32) dX8_range_18 (by decide) ?_ ?_
    · refine v_sub [0] rfl ?_
      exact w_X8_range_32 l E N m2
    · refine v_iload_n dX8_range_21 rfl 3 rfl ?_
      refine v_iload_n dX8_range_22 rfl 2 rfl ?_
      refine v_sipush (v := 9999) dX8_range_23 rfl ?_
      refine v_callSi (As := [.int x3, .int x2, .int 9999]) (rest := []) (c_X8_isWithin l E m2 x3 x2 9999) ks_X8_isWithin q370 ⟨rfl, rfl⟩ ⟨Nat.le_of_ble_eq_true rfl, Nat.le_of_ble_eq_true rfl⟩ ⟨Nat.zero_le _, Nat.zero_le _⟩ rfl rfl (Nat.le_of_ble_eq_true rfl) dX8_range_26 (fun m3 r3 => ?_)
      refine v_if_ne (tgt := 40) dX8_range_29 (by decide) ?_ ?_
      · refine v_aload_n dX8_range_40 rfl 0 rfl ?_
        refine gf_X8_history kc0 q337 dX8_range_41 ?_
        refine v_aload_n dX8_range_44 rfl 0 rfl ?_
        refine gf_X8_now kc0 q336 dX8_range_45 ?_
        refine v_callVv (q := 54) (ci := 0) (C := RX0) (T := TX0) (NN := 2) (As := [.ref (eAd E 43)]) (rest := []) (c_X0_keep l E N 43 st43 m3) kv_X0_keep kc54 (by decide) rfl q395 ⟨rfl, rfl⟩ ⟨Nat.le_of_ble_eq_true rfl, Nat.le_of_ble_eq_true rfl⟩ ⟨Nat.zero_le _, Nat.zero_le _⟩ rfl rfl (Nat.le_of_ble_eq_true rfl) dX8_range_48 (fun m4 _ => ?_)
        refine v_aload_n dX8_range_51 rfl 0 rfl ?_
        refine gf_X8_now kc0 q336 dX8_range_52 ?_
        refine gf_X3_low kc43 q258 dX8_range_55 ?_
        refine v_iload_n dX8_range_58 rfl 1 rfl ?_
        refine v_gd (fun g59 => ?_)
        refine v_iald (kst1 st43) (lst1 st43) g59 dX8_range_59 ?_
        refine v_istore (lv' := [(4, .int (m4 44 (ix x1))), (0, .ref (eAd E 0)), (1, .int x1), (2, .int x2), (3, .int x3)]) dX8_range_60 (Nat.le_of_ble_eq_true rfl) rfl ?_
        refine v_aload_n dX8_range_62 rfl 1 rfl ?_
        refine gf_X8_now kc0 q336 dX8_range_63 ?_
        refine gf_X3_low kc43 q258 dX8_range_66 ?_
        refine v_iload_n dX8_range_69 rfl 2 rfl ?_
        refine v_iload_n dX8_range_70 rfl 3 rfl ?_
        refine v_gd (fun g71 => ?_)
        refine v_iast (kst1 st43) (lst1 st43) g71 dX8_range_71 (fun m5 => ?_)
        refine v_aload_n dX8_range_72 rfl 1 rfl ?_
        refine gf_X8_now kc0 q336 dX8_range_73 ?_
        refine gf_X3_high kc43 q260 dX8_range_76 ?_
        refine v_iload_n dX8_range_79 rfl 2 rfl ?_
        refine v_iload_n dX8_range_80 rfl 4 rfl ?_
        refine v_gd (fun g81 => ?_)
        refine v_iast (kst2 st43) (lst2 st43) g81 dX8_range_81 (fun m6 => ?_)
        refine v_aload_n dX8_range_82 rfl 1 rfl ?_
        refine gf_X8_now kc0 q336 dX8_range_83 ?_
        refine v_iload_n dX8_range_86 rfl 2 rfl ?_
        refine v_callVv (q := 43) (ci := 3) (C := RX3) (T := TX3) (NN := 17) (As := [.int x1]) (rest := []) (c_X3_lowerNumbers l E N 43 st43 m6 x1) kv_X3_lowerNumbers kc43 (by decide) rfl q441 ⟨rfl, rfl⟩ ⟨Nat.le_of_ble_eq_true rfl, Nat.le_of_ble_eq_true rfl⟩ ⟨Nat.zero_le _, Nat.zero_le _⟩ rfl rfl (Nat.le_of_ble_eq_true rfl) dX8_range_87 (fun m7 _ => ?_)
        refine v_iload dX8_range_90 0 rfl ?_
        exact v_iret dX8_range_92
      · refine v_sub [0] rfl ?_
        exact w_X8_range_32 l E N m3

def rm_X8_nodeReading : Room := { frames := 0, cells := 0, slots := 0, locals := 0 }
def f_X8_nodeReading (m0 : Mem) (x1 : Int32) (x2 : Int32) : Option (Mem × Int32) := gd (inR x1 16) (if x2 = 0 then (some (m0, (m0 (6 + 2 * ix x1) 0))) else (if x2 = 1 then (some (m0, (m0 (6 + 2 * ix x1) 1))) else (if x2 = 2 then (some (m0, (m0 (6 + 2 * ix x1) 2))) else (if x2 = 3 then (some (m0, (m0 (6 + 2 * ix x1) 3))) else (if x2 = 4 then (gd (inR x1 16) (some (m0, (m0 44 (ix x1))))) else (if x2 = 5 then (gd (inR x1 16) (some (m0, (m0 45 (ix x1))))) else (if x2 = 6 then (some (m0, (m0 (6 + 2 * ix x1) 4))) else (if x2 = 7 then (some (m0, (m0 (6 + 2 * ix x1) 5))) else (gd (inR x1 16) (some (m0, (m0 46 (ix x1)))))))))))))
theorem c_X8_nodeReading (l : Launch) (E : EnvT) (m0 : Mem) (x1 : Int32) (x2 : Int32) : CT l E yX8_nodeReading cX8_nodeReading 4 (some .int) (rm_X8_nodeReading) rvI (f_X8_nodeReading m0 x1 x2) [.ref (eAd E 0), .int x1, .int x2] m0 := by
  refine CT.ofV (own := RX8) (by decide) rfl (Nat.le_of_ble_eq_true rfl) ?_
  show V l E RX8 cX8_nodeReading 4 (some .int) (rm_X8_nodeReading) 0 0 (Zm E) rvI _ m0 0 [(0, .ref (eAd E 0)), (1, .int x1), (2, .int x2)] []
  unfold f_X8_nodeReading
  refine v_aload_n dX8_nodeReading_0 rfl 0 rfl ?_
  refine gf_X8_tree kc0 q334 dX8_nodeReading_1 ?_
  refine gf_X5_nodes kc3 q155 dX8_nodeReading_4 ?_
  refine v_iload_n dX8_nodeReading_7 rfl 1 rfl ?_
  refine v_gd (fun g8 => ?_)
  refine v_aldN g8 dX8_nodeReading_8 ?_
  refine v_astore_n (lv' := [(3, .ref (eAd E (6 + 2 * ix x1))), (0, .ref (eAd E 0)), (1, .int x1), (2, .int x2)]) dX8_nodeReading_9 rfl (Nat.le_of_ble_eq_true rfl) rfl ?_
  refine v_iload_n dX8_nodeReading_10 rfl 3 rfl ?_
  refine v_tcase (k := 0) (tgt := 56) dX8_nodeReading_11 (by decide) (by decide) rfl (by decide) ?_ (fun n11_0 => ?_)
  · refine v_aload_n dX8_nodeReading_56 rfl 0 rfl ?_
    refine gf_X1_parent (knd g8) q123 dX8_nodeReading_57 ?_
    exact v_iret dX8_nodeReading_60
  refine v_tcase (k := 1) (tgt := 61) dX8_nodeReading_11 (by decide) (by decide) rfl (by decide) ?_ (fun n11_1 => ?_)
  · refine v_aload_n dX8_nodeReading_61 rfl 0 rfl ?_
    refine gf_X1_kind (knd g8) q126 dX8_nodeReading_62 ?_
    exact v_iret dX8_nodeReading_65
  refine v_tcase (k := 2) (tgt := 66) dX8_nodeReading_11 (by decide) (by decide) rfl (by decide) ?_ (fun n11_2 => ?_)
  · refine v_aload_n dX8_nodeReading_66 rfl 0 rfl ?_
    refine gf_X1_most (knd g8) q129 dX8_nodeReading_67 ?_
    exact v_iret dX8_nodeReading_70
  refine v_tcase (k := 3) (tgt := 71) dX8_nodeReading_11 (by decide) (by decide) rfl (by decide) ?_ (fun n11_3 => ?_)
  · refine v_aload_n dX8_nodeReading_71 rfl 0 rfl ?_
    refine gf_X1_leftOut (knd g8) q131 dX8_nodeReading_72 ?_
    exact v_iret dX8_nodeReading_75
  refine v_tcase (k := 4) (tgt := 76) dX8_nodeReading_11 (by decide) (by decide) rfl (by decide) ?_ (fun n11_4 => ?_)
  · refine v_aload_n dX8_nodeReading_76 rfl 1 rfl ?_
    refine gf_X8_now kc0 q336 dX8_nodeReading_77 ?_
    refine gf_X3_low kc43 q258 dX8_nodeReading_80 ?_
    refine v_iload_n dX8_nodeReading_83 rfl 2 rfl ?_
    refine v_gd (fun g84 => ?_)
    refine v_iald (kst1 st43) (lst1 st43) g84 dX8_nodeReading_84 ?_
    exact v_iret dX8_nodeReading_85
  refine v_tcase (k := 5) (tgt := 86) dX8_nodeReading_11 (by decide) (by decide) rfl (by decide) ?_ (fun n11_5 => ?_)
  · refine v_aload_n dX8_nodeReading_86 rfl 1 rfl ?_
    refine gf_X8_now kc0 q336 dX8_nodeReading_87 ?_
    refine gf_X3_high kc43 q260 dX8_nodeReading_90 ?_
    refine v_iload_n dX8_nodeReading_93 rfl 2 rfl ?_
    refine v_gd (fun g94 => ?_)
    refine v_iald (kst2 st43) (lst2 st43) g94 dX8_nodeReading_94 ?_
    exact v_iret dX8_nodeReading_95
  refine v_tcase (k := 6) (tgt := 96) dX8_nodeReading_11 (by decide) (by decide) rfl (by decide) ?_ (fun n11_6 => ?_)
  · refine v_aload_n dX8_nodeReading_96 rfl 0 rfl ?_
    refine gf_X1_shortLength (knd g8) q134 dX8_nodeReading_97 ?_
    exact v_iret dX8_nodeReading_100
  refine v_tcase (k := 7) (tgt := 101) dX8_nodeReading_11 (by decide) (by decide) rfl (by decide) ?_ (fun n11_7 => ?_)
  · refine v_aload_n dX8_nodeReading_101 rfl 0 rfl ?_
    refine gf_X1_longLength (knd g8) q136 dX8_nodeReading_102 ?_
    exact v_iret dX8_nodeReading_105
  refine v_tout (tgt := 106) dX8_nodeReading_11 (by have en11_0 := lv_neT (a := 0) n11_0 rfl; have en11_1 := lv_neT (a := 1) n11_1 rfl; have en11_2 := lv_neT (a := 2) n11_2 rfl; have en11_3 := lv_neT (a := 3) n11_3 rfl; have en11_4 := lv_neT (a := 4) n11_4 rfl; have en11_5 := lv_neT (a := 5) n11_5 rfl; have en11_6 := lv_neT (a := 6) n11_6 rfl; have en11_7 := lv_neT (a := 7) n11_7 rfl; omega) (by decide) ?_
  refine v_aload_n dX8_nodeReading_106 rfl 1 rfl ?_
  refine gf_X8_now kc0 q336 dX8_nodeReading_107 ?_
  refine gf_X3_timesDone kc43 q262 dX8_nodeReading_110 ?_
  refine v_iload_n dX8_nodeReading_113 rfl 2 rfl ?_
  refine v_gd (fun g114 => ?_)
  refine v_iald (kst3 st43) (lst3 st43) g114 dX8_nodeReading_114 ?_
  exact v_iret dX8_nodeReading_115

def rm_X8_of : Room := { frames := 1, cells := 0, slots := 0, locals := 23 }
def f_X8_of_18 (m0 : Mem) : Option (Mem × Int32) := bm (f_X8_refuse m0 (-10002)) (fun m1 r1 => some (m1, r1))
theorem w_X8_of_18 (l : Launch) (E : EnvT) (m0 : Mem) : V l E RX8 cX8_of 3 (some .int) (rm_X8_of) 0 0 (Zm E) rvI (f_X8_of_18 m0) m0 18 [(0, .ref (eAd E 0))] [] := by
  unfold f_X8_of_18
  refine v_aload_n dX8_of_18 rfl 0 rfl ?_
  refine v_sipush (v := (-10002)) dX8_of_19 rfl ?_
  refine v_callVi (q := 0) (ci := 8) (C := RX8) (T := TX8) (NN := 8) (As := [.int (-10002)]) (rest := []) (c_X8_refuse l E m0 (-10002)) kv_X8_refuse kc0 (by decide) rfl q373 ⟨rfl, rfl⟩ ⟨Nat.le_of_ble_eq_true rfl, Nat.le_of_ble_eq_true rfl⟩ ⟨Nat.zero_le _, Nat.zero_le _⟩ rfl rfl (Nat.le_of_ble_eq_true rfl) dX8_of_22 (fun m1 r1 => ?_)
  exact v_iret dX8_of_25
def f_X8_of (m0 : Mem) (x1 : Int32) (x2 : Int32) : Option (Mem × Int32) := bm (f_X8_isNode m0 x1) (fun m1 r1 => if r1 = 0 then (f_X8_of_18 m1) else (bm (f_X8_isWithin m1 x2 0 8) (fun m2 r2 => if r2 = 0 then (f_X8_of_18 m2) else (bm (f_X8_nodeReading m2 x1 x2) (fun m3 r3 => some (m3, r3))))))
theorem c_X8_of (l : Launch) (E : EnvT) (m0 : Mem) (x1 : Int32) (x2 : Int32) : CT l E yX8_of cX8_of 3 (some .int) (rm_X8_of) rvI (f_X8_of m0 x1 x2) [.ref (eAd E 0), .int x1, .int x2] m0 := by
  refine CT.ofV (own := RX8) (by decide) rfl (Nat.le_of_ble_eq_true rfl) ?_
  show V l E RX8 cX8_of 3 (some .int) (rm_X8_of) 0 0 (Zm E) rvI _ m0 0 [(0, .ref (eAd E 0)), (1, .int x1), (2, .int x2)] []
  unfold f_X8_of
  refine v_aload_n dX8_of_0 rfl 0 rfl ?_
  refine v_iload_n dX8_of_1 rfl 1 rfl ?_
  refine v_callVi (q := 0) (ci := 8) (C := RX8) (T := TX8) (NN := 8) (As := [.int x1]) (rest := []) (c_X8_isNode l E m0 x1) kv_X8_isNode kc0 (by decide) rfl q366 ⟨rfl, rfl⟩ ⟨Nat.le_of_ble_eq_true rfl, Nat.le_of_ble_eq_true rfl⟩ ⟨Nat.zero_le _, Nat.zero_le _⟩ rfl rfl (Nat.le_of_ble_eq_true rfl) dX8_of_2 (fun m1 r1 => ?_)
  refine v_if_eq (tgt := 18) dX8_of_5 (by decide) ?_ ?_
  · refine v_sub [0] rfl ?_
    exact w_X8_of_18 l E m1
  · refine v_iload_n dX8_of_8 rfl 2 rfl ?_
    refine v_iconst (v := 0) dX8_of_9 rfl ?_
    refine v_bipush (v := 8) dX8_of_10 rfl ?_
    refine v_callSi (As := [.int x2, .int 0, .int 8]) (rest := []) (c_X8_isWithin l E m1 x2 0 8) ks_X8_isWithin q370 ⟨rfl, rfl⟩ ⟨Nat.le_of_ble_eq_true rfl, Nat.le_of_ble_eq_true rfl⟩ ⟨Nat.zero_le _, Nat.zero_le _⟩ rfl rfl (Nat.le_of_ble_eq_true rfl) dX8_of_12 (fun m2 r2 => ?_)
    refine v_if_ne (tgt := 26) dX8_of_15 (by decide) ?_ ?_
    · refine v_aload_n dX8_of_26 rfl 0 rfl ?_
      refine v_iload_n dX8_of_27 rfl 1 rfl ?_
      refine v_iload_n dX8_of_28 rfl 2 rfl ?_
      refine v_callVi (q := 0) (ci := 8) (C := RX8) (T := TX8) (NN := 8) (As := [.int x1, .int x2]) (rest := []) (c_X8_nodeReading l E m2 x1 x2) kv_X8_nodeReading kc0 (by decide) rfl q446 ⟨rfl, rfl⟩ ⟨Nat.le_of_ble_eq_true rfl, Nat.le_of_ble_eq_true rfl⟩ ⟨Nat.zero_le _, Nat.zero_le _⟩ rfl rfl (Nat.le_of_ble_eq_true rfl) dX8_of_29 (fun m3 r3 => ?_)
      exact v_iret dX8_of_32
    · refine v_sub [0] rfl ?_
      exact w_X8_of_18 l E m2

def rm_X3_numberOf : Room := { frames := 1, cells := 0, slots := 0, locals := 22 }
def f_X3_numberOf (k0 : Nat) (m0 : Mem) (x1 : Int32) (x2 : Int32) : Option (Mem × Int32) := bm (f_X8_isWithin m0 (((x1 * 3) + x2) - 1) 0 (48 - 1)) (fun m1 r1 => if r1 = 0 then (some (m1, (-10001))) else (gd (inR (((x1 * 3) + x2) - 1) 48) (some (m1, (m1 (k0 + 4) (ix (((x1 * 3) + x2) - 1)))))))
theorem c_X3_numberOf (l : Launch) (E : EnvT) (k0 : Nat) (hk0 : isSt k0 = true) (m0 : Mem) (x1 : Int32) (x2 : Int32) : CT l E yX3_numberOf cX3_numberOf 4 (some .int) (rm_X3_numberOf) rvI (f_X3_numberOf k0 m0 x1 x2) [.ref (eAd E k0), .int x1, .int x2] m0 := by
  refine CT.ofV (own := RX3) (by decide) rfl (Nat.le_of_ble_eq_true rfl) ?_
  show V l E RX3 cX3_numberOf 4 (some .int) (rm_X3_numberOf) 0 0 (Zm E) rvI _ m0 0 [(0, .ref (eAd E k0)), (1, .int x1), (2, .int x2)] []
  unfold f_X3_numberOf
  refine v_iload_n dX3_numberOf_0 rfl 1 rfl ?_
  refine v_iconst (v := 3) dX3_numberOf_1 rfl ?_
  refine v_imul dX3_numberOf_2 ?_
  refine v_iload_n dX3_numberOf_3 rfl 2 rfl ?_
  refine v_iadd dX3_numberOf_4 ?_
  refine v_iconst (v := 1) dX3_numberOf_5 rfl ?_
  refine v_isub dX3_numberOf_6 ?_
  refine v_istore_n (lv' := [(3, .int (((x1 * 3) + x2) - 1)), (0, .ref (eAd E k0)), (1, .int x1), (2, .int x2)]) dX3_numberOf_7 rfl (Nat.le_of_ble_eq_true rfl) rfl ?_
  refine v_iload_n dX3_numberOf_8 rfl 0 rfl ?_
  refine v_iconst (v := 0) dX3_numberOf_9 rfl ?_
  refine v_aload_n dX3_numberOf_10 rfl 1 rfl ?_
  refine gf_X3_numbers (kst hk0) q263 dX3_numberOf_11 ?_
  refine v_alenI (v := 48) (kst4 hk0) (congrArg Int32.ofNat (lst4 hk0)) dX3_numberOf_14 ?_
  refine v_iconst (v := 1) dX3_numberOf_15 rfl ?_
  refine v_isub dX3_numberOf_16 ?_
  refine v_callSNi (As := [.int (((x1 * 3) + x2) - 1), .int 0, .int (48 - 1)]) (rest := []) (c_X8_isWithin l E m0 (((x1 * 3) + x2) - 1) 0 (48 - 1)) ks_X8_isWithin nq432 ⟨rfl, rfl⟩ ⟨Nat.le_of_ble_eq_true rfl, Nat.le_of_ble_eq_true rfl⟩ ⟨Nat.zero_le _, Nat.zero_le _⟩ rfl rfl (Nat.le_of_ble_eq_true rfl) dX3_numberOf_17 (fun m1 r1 => ?_)
  refine v_if_eq (tgt := 32) dX3_numberOf_20 (by decide) ?_ ?_
  · refine v_sipush (v := (-10001)) dX3_numberOf_32 rfl ?_
    exact v_iret dX3_numberOf_35
  · refine v_aload_n dX3_numberOf_23 rfl 1 rfl ?_
    refine gf_X3_numbers (kst hk0) q263 dX3_numberOf_24 ?_
    refine v_iload_n dX3_numberOf_27 rfl 0 rfl ?_
    refine v_gd (fun g28 => ?_)
    refine v_iald (kst4 hk0) (lst4 hk0) g28 dX3_numberOf_28 ?_
    refine v_goto (tgt := 35) dX3_numberOf_29 (by decide) ?_
    exact v_iret dX3_numberOf_35

def rm_X8_value : Room := { frames := 2, cells := 0, slots := 0, locals := 45 }
def f_X8_value_17 (m0 : Mem) : Option (Mem × Int32) := bm (f_X8_refuse m0 (-10002)) (fun m1 r1 => some (m1, r1))
theorem w_X8_value_17 (l : Launch) (E : EnvT) (m0 : Mem) : V l E RX8 cX8_value 3 (some .int) (rm_X8_value) 0 0 (Zm E) rvI (f_X8_value_17 m0) m0 17 [(0, .ref (eAd E 0))] [] := by
  unfold f_X8_value_17
  refine v_aload_n dX8_value_17 rfl 0 rfl ?_
  refine v_sipush (v := (-10002)) dX8_value_18 rfl ?_
  refine v_callVi (q := 0) (ci := 8) (C := RX8) (T := TX8) (NN := 8) (As := [.int (-10002)]) (rest := []) (c_X8_refuse l E m0 (-10002)) kv_X8_refuse kc0 (by decide) rfl q373 ⟨rfl, rfl⟩ ⟨Nat.le_of_ble_eq_true rfl, Nat.le_of_ble_eq_true rfl⟩ ⟨Nat.zero_le _, Nat.zero_le _⟩ rfl rfl (Nat.le_of_ble_eq_true rfl) dX8_value_21 (fun m1 r1 => ?_)
  exact v_iret dX8_value_24
def f_X8_value (m0 : Mem) (x1 : Int32) (x2 : Int32) : Option (Mem × Int32) := bm (f_X8_isValueNode m0 x1) (fun m1 r1 => if r1 = 0 then (f_X8_value_17 m1) else (bm (f_X8_isWithin m1 x2 1 3) (fun m2 r2 => if r2 = 0 then (f_X8_value_17 m2) else (bm (f_X3_numberOf 43 m2 x1 x2) (fun m3 r3 => some (m3, r3))))))
theorem c_X8_value (l : Launch) (E : EnvT) (m0 : Mem) (x1 : Int32) (x2 : Int32) : CT l E yX8_value cX8_value 3 (some .int) (rm_X8_value) rvI (f_X8_value m0 x1 x2) [.ref (eAd E 0), .int x1, .int x2] m0 := by
  refine CT.ofV (own := RX8) (by decide) rfl (Nat.le_of_ble_eq_true rfl) ?_
  show V l E RX8 cX8_value 3 (some .int) (rm_X8_value) 0 0 (Zm E) rvI _ m0 0 [(0, .ref (eAd E 0)), (1, .int x1), (2, .int x2)] []
  unfold f_X8_value
  refine v_aload_n dX8_value_0 rfl 0 rfl ?_
  refine v_iload_n dX8_value_1 rfl 1 rfl ?_
  refine v_callVi (q := 0) (ci := 8) (C := RX8) (T := TX8) (NN := 8) (As := [.int x1]) (rest := []) (c_X8_isValueNode l E m0 x1) kv_X8_isValueNode kc0 (by decide) rfl q437 ⟨rfl, rfl⟩ ⟨Nat.le_of_ble_eq_true rfl, Nat.le_of_ble_eq_true rfl⟩ ⟨Nat.zero_le _, Nat.zero_le _⟩ rfl rfl (Nat.le_of_ble_eq_true rfl) dX8_value_2 (fun m1 r1 => ?_)
  refine v_if_eq (tgt := 17) dX8_value_5 (by decide) ?_ ?_
  · refine v_sub [0] rfl ?_
    exact w_X8_value_17 l E m1
  · refine v_iload_n dX8_value_8 rfl 2 rfl ?_
    refine v_iconst (v := 1) dX8_value_9 rfl ?_
    refine v_iconst (v := 3) dX8_value_10 rfl ?_
    refine v_callSi (As := [.int x2, .int 1, .int 3]) (rest := []) (c_X8_isWithin l E m1 x2 1 3) ks_X8_isWithin q370 ⟨rfl, rfl⟩ ⟨Nat.le_of_ble_eq_true rfl, Nat.le_of_ble_eq_true rfl⟩ ⟨Nat.zero_le _, Nat.zero_le _⟩ rfl rfl (Nat.le_of_ble_eq_true rfl) dX8_value_11 (fun m2 r2 => ?_)
    refine v_if_ne (tgt := 25) dX8_value_14 (by decide) ?_ ?_
    · refine v_aload_n dX8_value_25 rfl 0 rfl ?_
      refine gf_X8_now kc0 q336 dX8_value_26 ?_
      refine v_iload_n dX8_value_29 rfl 1 rfl ?_
      refine v_iload_n dX8_value_30 rfl 2 rfl ?_
      refine v_callVi (q := 43) (ci := 3) (C := RX3) (T := TX3) (NN := 17) (As := [.int x1, .int x2]) (rest := []) (c_X3_numberOf l E 43 st43 m2 x1 x2) kv_X3_numberOf kc43 (by decide) rfl q454 ⟨rfl, rfl⟩ ⟨Nat.le_of_ble_eq_true rfl, Nat.le_of_ble_eq_true rfl⟩ ⟨Nat.zero_le _, Nat.zero_le _⟩ rfl rfl (Nat.le_of_ble_eq_true rfl) dX8_value_31 (fun m3 r3 => ?_)
      exact v_iret dX8_value_34
    · refine v_sub [0] rfl ?_
      exact w_X8_value_17 l E m2

def rm_X4_append : Room := { frames := 0, cells := 0, slots := 0, locals := 0 }
def f_X4_append (m0 : Mem) (x1 : Int32) : Option (Mem × Unit) := if (m0 1 1) < 0 then (some (m0, ())) else (if 100 ≤ (m0 1 1) then (some (m0, ())) else (gd (inR (m0 1 1) 100) (lm (up m0 2 (ix (m0 1 1)) (vp_nar .byte (x1.toInt8.toInt32))) (fun m1 => lm (up m1 1 1 ((m1 1 1) + 1)) (fun m2 => some (m2, ()))))))
theorem c_X4_append (l : Launch) (E : EnvT) (m0 : Mem) (x1 : Int32) : CT l E yX4_append cX4_append 2 none (rm_X4_append) rvV (f_X4_append m0 x1) [.ref (eAd E 1), .int x1] m0 := by
  refine CT.ofV (own := RX4) (by decide) rfl (Nat.le_of_ble_eq_true rfl) ?_
  show V l E RX4 cX4_append 2 none (rm_X4_append) 0 0 (Zm E) rvV _ m0 0 [(0, .ref (eAd E 1)), (1, .int x1)] []
  unfold f_X4_append
  refine v_aload_n dX4_append_0 rfl 0 rfl ?_
  refine gf_X4_length kc1 q100 dX4_append_1 ?_
  refine v_if_lt (tgt := 37) dX4_append_4 (by decide) ?_ ?_
  · exact v_vret dX4_append_37
  · refine v_aload_n dX4_append_7 rfl 0 rfl ?_
    refine gf_X4_length kc1 q100 dX4_append_8 ?_
    refine v_bipush (v := 100) dX4_append_11 rfl ?_
    refine v_icmp_ge (tgt := 37) dX4_append_13 (by decide) ?_ ?_
    · exact v_vret dX4_append_37
    · refine v_aload_n dX4_append_16 rfl 0 rfl ?_
      refine gf_X4_bytes kc1 q99 dX4_append_17 ?_
      refine v_aload_n dX4_append_20 rfl 0 rfl ?_
      refine gf_X4_length kc1 q100 dX4_append_21 ?_
      refine v_iload_n dX4_append_24 rfl 1 rfl ?_
      refine v_i2b dX4_append_25 ?_
      refine v_gd (fun g26 => ?_)
      refine v_bast kc2 rfl g26 dX4_append_26 (fun m1 => ?_)
      refine v_aload_n dX4_append_27 rfl 0 rfl ?_
      refine v_dup dX4_append_28 rfl ?_
      refine gf_X4_length kc1 q100 dX4_append_29 ?_
      refine v_iconst (v := 1) dX4_append_32 rfl ?_
      refine v_iadd dX4_append_33 ?_
      refine pf_X4_length kc1 q100 dX4_append_34 (fun m2 => ?_)
      exact v_vret dX4_append_37

def rm_X8_type : Room := { frames := 1, cells := 0, slots := 0, locals := 22 }
def f_X8_type (m0 : Mem) (x1 : Int32) : Option (Mem × Int32) := bm (f_X8_isWithin m0 x1 0 127) (fun m1 r1 => if r1 = 0 then (bm (f_X8_refuse m1 (-10002)) (fun m4 r4 => some (m4, r4))) else (if (m1 1 1) < 100 then (bm (f_X4_append m1 x1) (fun m2 _ => some (m2, (m2 1 1)))) else (bm (f_X8_refuse m1 (-10004)) (fun m3 r3 => some (m3, r3)))))
theorem c_X8_type (l : Launch) (E : EnvT) (m0 : Mem) (x1 : Int32) : CT l E yX8_type cX8_type 2 (some .int) (rm_X8_type) rvI (f_X8_type m0 x1) [.ref (eAd E 0), .int x1] m0 := by
  refine CT.ofV (own := RX8) (by decide) rfl (Nat.le_of_ble_eq_true rfl) ?_
  show V l E RX8 cX8_type 2 (some .int) (rm_X8_type) 0 0 (Zm E) rvI _ m0 0 [(0, .ref (eAd E 0)), (1, .int x1)] []
  unfold f_X8_type
  refine v_iload_n dX8_type_0 rfl 1 rfl ?_
  refine v_iconst (v := 0) dX8_type_1 rfl ?_
  refine v_bipush (v := 127) dX8_type_2 rfl ?_
  refine v_callSi (As := [.int x1, .int 0, .int 127]) (rest := []) (c_X8_isWithin l E m0 x1 0 127) ks_X8_isWithin q370 ⟨rfl, rfl⟩ ⟨Nat.le_of_ble_eq_true rfl, Nat.le_of_ble_eq_true rfl⟩ ⟨Nat.zero_le _, Nat.zero_le _⟩ rfl rfl (Nat.le_of_ble_eq_true rfl) dX8_type_4 (fun m1 r1 => ?_)
  refine v_if_ne (tgt := 18) dX8_type_7 (by decide) ?_ ?_
  · refine v_aload_n dX8_type_18 rfl 0 rfl ?_
    refine gf_X8_text kc0 q333 dX8_type_19 ?_
    refine gf_X4_length kc1 q102 dX8_type_22 ?_
    refine v_bipush (v := 100) dX8_type_25 rfl ?_
    refine v_icmp_lt (tgt := 38) dX8_type_27 (by decide) ?_ ?_
    · refine v_aload_n dX8_type_38 rfl 0 rfl ?_
      refine gf_X8_text kc0 q333 dX8_type_39 ?_
      refine v_iload_n dX8_type_42 rfl 1 rfl ?_
      refine v_callVv (q := 1) (ci := 4) (C := RX4) (T := TX4) (NN := 2) (As := [.int x1]) (rest := []) (c_X4_append l E m1 x1) kv_X4_append kc1 (by decide) rfl q462 ⟨rfl, rfl⟩ ⟨Nat.le_of_ble_eq_true rfl, Nat.le_of_ble_eq_true rfl⟩ ⟨Nat.zero_le _, Nat.zero_le _⟩ rfl rfl (Nat.le_of_ble_eq_true rfl) dX8_type_43 (fun m2 _ => ?_)
      refine v_aload_n dX8_type_46 rfl 0 rfl ?_
      refine gf_X8_text kc0 q333 dX8_type_47 ?_
      refine gf_X4_length kc1 q102 dX8_type_50 ?_
      exact v_iret dX8_type_53
    · refine v_aload_n dX8_type_30 rfl 0 rfl ?_
      refine v_sipush (v := (-10004)) dX8_type_31 rfl ?_
      refine v_callVi (q := 0) (ci := 8) (C := RX8) (T := TX8) (NN := 8) (As := [.int (-10004)]) (rest := []) (c_X8_refuse l E m1 (-10004)) kv_X8_refuse kc0 (by decide) rfl q373 ⟨rfl, rfl⟩ ⟨Nat.le_of_ble_eq_true rfl, Nat.le_of_ble_eq_true rfl⟩ ⟨Nat.zero_le _, Nat.zero_le _⟩ rfl rfl (Nat.le_of_ble_eq_true rfl) dX8_type_34 (fun m3 r3 => ?_)
      exact v_iret dX8_type_37
  · refine v_aload_n dX8_type_10 rfl 0 rfl ?_
    refine v_sipush (v := (-10002)) dX8_type_11 rfl ?_
    refine v_callVi (q := 0) (ci := 8) (C := RX8) (T := TX8) (NN := 8) (As := [.int (-10002)]) (rest := []) (c_X8_refuse l E m1 (-10002)) kv_X8_refuse kc0 (by decide) rfl q373 ⟨rfl, rfl⟩ ⟨Nat.le_of_ble_eq_true rfl, Nat.le_of_ble_eq_true rfl⟩ ⟨Nat.zero_le _, Nat.zero_le _⟩ rfl rfl (Nat.le_of_ble_eq_true rfl) dX8_type_14 (fun m4 r4 => ?_)
    exact v_iret dX8_type_17

def rm_X8_clear : Room := { frames := 0, cells := 0, slots := 0, locals := 0 }
def f_X8_clear (m0 : Mem) : Option (Mem × Int32) := lm (up m0 1 1 0) (fun m1 => some (m1, (m0 1 1)))
theorem c_X8_clear (l : Launch) (E : EnvT) (m0 : Mem) : CT l E yX8_clear cX8_clear 2 (some .int) (rm_X8_clear) rvI (f_X8_clear m0) [.ref (eAd E 0)] m0 := by
  refine CT.ofV (own := RX8) (by decide) rfl (Nat.le_of_ble_eq_true rfl) ?_
  show V l E RX8 cX8_clear 2 (some .int) (rm_X8_clear) 0 0 (Zm E) rvI _ m0 0 [(0, .ref (eAd E 0))] []
  unfold f_X8_clear
  refine v_aload_n dX8_clear_0 rfl 0 rfl ?_
  refine gf_X8_text kc0 q333 dX8_clear_1 ?_
  refine gf_X4_length kc1 q102 dX8_clear_4 ?_
  refine v_istore_n (lv' := [(1, .int (m0 1 1)), (0, .ref (eAd E 0))]) dX8_clear_7 rfl (Nat.le_of_ble_eq_true rfl) rfl ?_
  refine v_aload_n dX8_clear_8 rfl 1 rfl ?_
  refine gf_X8_text kc0 q333 dX8_clear_9 ?_
  refine v_iconst (v := 0) dX8_clear_12 rfl ?_
  refine pf_X4_length kc1 q102 dX8_clear_13 (fun m1 => ?_)
  refine v_iload_n dX8_clear_16 rfl 0 rfl ?_
  exact v_iret dX8_clear_17
