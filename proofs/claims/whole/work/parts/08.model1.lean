def rm_X9_in : Room := { frames := 0, cells := 0, slots := 0, locals := 0 }
def f_X9_in (m0 : Mem) (x0 : Int32) (x1 : Int32) (x2 : Int32) : Option (Mem × Int32) := if x0 < x1 then (some (m0, 0)) else (if x2 < x0 then (some (m0, 0)) else (some (m0, 1)))
theorem c_X9_in (l : Launch) (E : EnvT) (m0 : Mem) (x0 : Int32) (x1 : Int32) (x2 : Int32) : CT l E yX9_in cX9_in 3 (some .boolean) (rm_X9_in) rvI (f_X9_in m0 x0 x1 x2) [.int x0, .int x1, .int x2] m0 := by
  refine CT.ofV (own := RX9) (by decide) rfl (Nat.le_of_ble_eq_true rfl) ?_
  show V l E RX9 cX9_in 3 (some .boolean) (rm_X9_in) 0 0 (Zm E) rvI _ m0 0 [(0, .int x0), (1, .int x1), (2, .int x2)] []
  unfold f_X9_in
  refine v_iload_n dX9_in_0 rfl 0 rfl ?_
  refine v_iload_n dX9_in_1 rfl 1 rfl ?_
  refine v_icmp_lt (tgt := 14) dX9_in_2 (by decide) ?_ ?_
  · refine v_iconst (v := 0) dX9_in_14 rfl ?_
    exact v_zret rfl dX9_in_15
  · refine v_iload_n dX9_in_5 rfl 0 rfl ?_
    refine v_iload_n dX9_in_6 rfl 2 rfl ?_
    refine v_icmp_gt (tgt := 14) dX9_in_7 (by decide) ?_ ?_
    · refine v_iconst (v := 0) dX9_in_14 rfl ?_
      exact v_zret rfl dX9_in_15
    · refine v_iconst (v := 1) dX9_in_10 rfl ?_
      refine v_goto (tgt := 15) dX9_in_11 (by decide) ?_
      exact v_zret rfl dX9_in_15

def rm_X9_refuses : Room := { frames := 0, cells := 0, slots := 0, locals := 0 }
def f_X9_refuses (m0 : Mem) (x1 : Int32) : Option (Mem × Int32) := gd (inR ((-10002) - x1) 3) (gd (inR ((-10002) - x1) 3) (lm (up m0 115 (ix ((-10002) - x1)) ((m0 115 (ix ((-10002) - x1))) + 1)) (fun m1 => some (m1, x1))))
theorem c_X9_refuses (l : Launch) (E : EnvT) (m0 : Mem) (x1 : Int32) : CT l E yX9_refuses cX9_refuses 2 (some .int) (rm_X9_refuses) rvI (f_X9_refuses m0 x1) [.ref (eAd E 111), .int x1] m0 := by
  refine CT.ofV (own := RX9) (by decide) rfl (Nat.le_of_ble_eq_true rfl) ?_
  show V l E RX9 cX9_refuses 2 (some .int) (rm_X9_refuses) 0 0 (Zm E) rvI _ m0 0 [(0, .ref (eAd E 111)), (1, .int x1)] []
  unfold f_X9_refuses
  refine v_aload_n dX9_refuses_0 rfl 0 rfl ?_
  refine gf_X9_refused kc111 q826 dX9_refuses_1 ?_
  refine v_sipush (v := (-10002)) dX9_refuses_4 rfl ?_
  refine v_iload_n dX9_refuses_7 rfl 1 rfl ?_
  refine v_isub dX9_refuses_8 ?_
  refine v_dup2 dX9_refuses_9 rfl rfl ?_
  refine v_gd (fun g10 => ?_)
  refine v_iald kc115 rfl g10 dX9_refuses_10 ?_
  refine v_iconst (v := 1) dX9_refuses_11 rfl ?_
  refine v_iadd dX9_refuses_12 ?_
  refine v_gd (fun g13 => ?_)
  refine v_iast kc115 rfl g13 dX9_refuses_13 (fun m1 => ?_)
  refine v_iload_n dX9_refuses_14 rfl 1 rfl ?_
  exact v_iret dX9_refuses_15

def rm_X9_hold : Room := { frames := 0, cells := 0, slots := 0, locals := 0 }
def f_X9_hold_2b (N : Nat) (rec_2 : Mem → Int32 → Option (Mem × Unit)) (m0 : Mem) (x1 : Int32) : Option (Mem × Unit) := if 347 ≤ x1 then (some (m0, ())) else (gd (inR x1 347) (gd (inR x1 347) (lm (up m0 113 (ix x1) (m0 112 (ix x1))) (fun m1 => (rec_2 m1 (x1 + 1))))))
def f_X9_hold_2 (N : Nat) : Nat → Mem → Int32 → Option (Mem × Unit)
  | 0 => fun _ _ => none
  | n + 1 => f_X9_hold_2b N (f_X9_hold_2 N n)
theorem w_X9_hold_2b (l : Launch) (E : EnvT) (N : Nat) (rec_2 : Mem → Int32 → Option (Mem × Unit)) (hrec_2 : ∀ (m0 : Mem) (x1 : Int32), V l E RX9 cX9_hold 2 none (rm_X9_hold) 0 0 (Zm E) rvV (rec_2 m0 x1) m0 2 [(0, .ref (eAd E 111)), (1, .int x1)] []) (m0 : Mem) (x1 : Int32) : V l E RX9 cX9_hold 2 none (rm_X9_hold) 0 0 (Zm E) rvV (f_X9_hold_2b N rec_2 m0 x1) m0 2 [(0, .ref (eAd E 111)), (1, .int x1)] [] := by
  unfold f_X9_hold_2b
  refine v_iload_n dX9_hold_2 rfl 1 rfl ?_
  refine v_sipush (v := 347) dX9_hold_3 rfl ?_
  refine v_icmp_ge (tgt := 27) dX9_hold_6 (by decide) ?_ ?_
  · exact v_vret dX9_hold_27
  · refine v_aload_n dX9_hold_9 rfl 0 rfl ?_
    refine gf_X9_held kc111 q823 dX9_hold_10 ?_
    refine v_iload_n dX9_hold_13 rfl 1 rfl ?_
    refine v_aload_n dX9_hold_14 rfl 0 rfl ?_
    refine gf_X9_now kc111 q822 dX9_hold_15 ?_
    refine v_iload_n dX9_hold_18 rfl 1 rfl ?_
    refine v_gd (fun g19 => ?_)
    refine v_iald kc112 rfl g19 dX9_hold_19 ?_
    refine v_gd (fun g20 => ?_)
    refine v_iast kc113 rfl g20 dX9_hold_20 (fun m1 => ?_)
    refine v_iinc (v := (x1 + 1)) (lv' := [(1, .int (x1 + 1)), (0, .ref (eAd E 111))]) dX9_hold_21 1 rfl rfl (Nat.le_of_ble_eq_true rfl) rfl ?_
    refine v_goto (tgt := 2) dX9_hold_24 (by decide) ?_
    refine v_sub [1, 0] rfl ?_
    exact hrec_2 m1 (x1 + 1)
theorem w_X9_hold_2 (l : Launch) (E : EnvT) (N : Nat) : ∀ (n : Nat) (m0 : Mem) (x1 : Int32), V l E RX9 cX9_hold 2 none (rm_X9_hold) 0 0 (Zm E) rvV (f_X9_hold_2 N n m0 x1) m0 2 [(0, .ref (eAd E 111)), (1, .int x1)] [] := by
  intro n
  induction n with
  | zero => intros; exact v_none
  | succ n ih => exact w_X9_hold_2b l E N _ ih
def f_X9_hold (N : Nat) (m0 : Mem) : Option (Mem × Unit) := (f_X9_hold_2 N N m0 0)
theorem c_X9_hold (l : Launch) (E : EnvT) (N : Nat) (m0 : Mem) : CT l E yX9_hold cX9_hold 2 none (rm_X9_hold) rvV (f_X9_hold N m0) [.ref (eAd E 111)] m0 := by
  refine CT.ofV (own := RX9) (by decide) rfl (Nat.le_of_ble_eq_true rfl) ?_
  show V l E RX9 cX9_hold 2 none (rm_X9_hold) 0 0 (Zm E) rvV _ m0 0 [(0, .ref (eAd E 111))] []
  unfold f_X9_hold
  refine v_iconst (v := 0) dX9_hold_0 rfl ?_
  refine v_istore_n (lv' := [(1, .int 0), (0, .ref (eAd E 111))]) dX9_hold_1 rfl (Nat.le_of_ble_eq_true rfl) rfl ?_
  refine v_sub [1, 0] rfl ?_
  exact w_X9_hold_2 l E N N m0 0

def rm_X9_push : Room := { frames := 0, cells := 0, slots := 0, locals := 0 }
def f_X9_push_51b (N : Nat) (rec_51 : Mem → Int32 → Option (Mem × Unit)) (m0 : Mem) (x1 : Int32) : Option (Mem × Unit) := if 347 ≤ x1 then (lm (up m0 111 3 ((m0 111 3) + 1)) (fun m1 => some (m1, ()))) else (gd (inR x1 347) (gd (inR ((347 * (m0 111 3)) + x1) 1735) (lm (up m0 114 (ix ((347 * (m0 111 3)) + x1)) (m0 113 (ix x1))) (fun m2 => (rec_51 m2 (x1 + 1))))))
def f_X9_push_51 (N : Nat) : Nat → Mem → Int32 → Option (Mem × Unit)
  | 0 => fun _ _ => none
  | n + 1 => f_X9_push_51b N (f_X9_push_51 N n)
theorem w_X9_push_51b (l : Launch) (E : EnvT) (N : Nat) (rec_51 : Mem → Int32 → Option (Mem × Unit)) (hrec_51 : ∀ (m0 : Mem) (x1 : Int32), V l E RX9 cX9_push 2 none (rm_X9_push) 0 0 (Zm E) rvV (rec_51 m0 x1) m0 51 [(0, .ref (eAd E 111)), (1, .int x1)] []) (m0 : Mem) (x1 : Int32) : V l E RX9 cX9_push 2 none (rm_X9_push) 0 0 (Zm E) rvV (f_X9_push_51b N rec_51 m0 x1) m0 51 [(0, .ref (eAd E 111)), (1, .int x1)] [] := by
  unfold f_X9_push_51b
  refine v_iload_n dX9_push_51 rfl 1 rfl ?_
  refine v_sipush (v := 347) dX9_push_52 rfl ?_
  refine v_icmp_ge (tgt := 85) dX9_push_55 (by decide) ?_ ?_
  · refine v_aload_n dX9_push_85 rfl 0 rfl ?_
    refine v_dup dX9_push_86 rfl ?_
    refine gf_X9_pasts kc111 q825 dX9_push_87 ?_
    refine v_iconst (v := 1) dX9_push_90 rfl ?_
    refine v_iadd dX9_push_91 ?_
    refine pf_X9_pasts kc111 q825 dX9_push_92 (fun m1 => ?_)
    exact v_vret dX9_push_95
  · refine v_aload_n dX9_push_58 rfl 0 rfl ?_
    refine gf_X9_past kc111 q824 dX9_push_59 ?_
    refine v_sipush (v := 347) dX9_push_62 rfl ?_
    refine v_aload_n dX9_push_65 rfl 0 rfl ?_
    refine gf_X9_pasts kc111 q825 dX9_push_66 ?_
    refine v_imul dX9_push_69 ?_
    refine v_iload_n dX9_push_70 rfl 1 rfl ?_
    refine v_iadd dX9_push_71 ?_
    refine v_aload_n dX9_push_72 rfl 0 rfl ?_
    refine gf_X9_held kc111 q823 dX9_push_73 ?_
    refine v_iload_n dX9_push_76 rfl 1 rfl ?_
    refine v_gd (fun g77 => ?_)
    refine v_iald kc113 rfl g77 dX9_push_77 ?_
    refine v_gd (fun g78 => ?_)
    refine v_iast kc114 rfl g78 dX9_push_78 (fun m2 => ?_)
    refine v_iinc (v := (x1 + 1)) (lv' := [(1, .int (x1 + 1)), (0, .ref (eAd E 111))]) dX9_push_79 1 rfl rfl (Nat.le_of_ble_eq_true rfl) rfl ?_
    refine v_goto (tgt := 51) dX9_push_82 (by decide) ?_
    refine v_sub [1, 0] rfl ?_
    exact hrec_51 m2 (x1 + 1)
theorem w_X9_push_51 (l : Launch) (E : EnvT) (N : Nat) : ∀ (n : Nat) (m0 : Mem) (x1 : Int32), V l E RX9 cX9_push 2 none (rm_X9_push) 0 0 (Zm E) rvV (f_X9_push_51 N n m0 x1) m0 51 [(0, .ref (eAd E 111)), (1, .int x1)] [] := by
  intro n
  induction n with
  | zero => intros; exact v_none
  | succ n ih => exact w_X9_push_51b l E N _ ih
def f_X9_push_49 (N : Nat) (m0 : Mem) : Option (Mem × Unit) := (f_X9_push_51 N N m0 0)
theorem w_X9_push_49 (l : Launch) (E : EnvT) (N : Nat) (m0 : Mem) : V l E RX9 cX9_push 2 none (rm_X9_push) 0 0 (Zm E) rvV (f_X9_push_49 N m0) m0 49 [(0, .ref (eAd E 111))] [] := by
  unfold f_X9_push_49
  refine v_iconst (v := 0) dX9_push_49 rfl ?_
  refine v_istore_n (lv' := [(1, .int 0), (0, .ref (eAd E 111))]) dX9_push_50 rfl (Nat.le_of_ble_eq_true rfl) rfl ?_
  refine v_sub [1, 0] rfl ?_
  exact w_X9_push_51 l E N N m0 0
def f_X9_push_10b (N : Nat) (rec_10 : Mem → Int32 → Option (Mem × Unit)) (m0 : Mem) (x1 : Int32) : Option (Mem × Unit) := if 1388 ≤ x1 then (lm (up m0 111 3 ((m0 111 3) - 1)) (fun m1 => (f_X9_push_49 N m1))) else (gd (inR (x1 + 347) 1735) (gd (inR x1 1735) (lm (up m0 114 (ix x1) (m0 114 (ix (x1 + 347)))) (fun m2 => (rec_10 m2 (x1 + 1))))))
def f_X9_push_10 (N : Nat) : Nat → Mem → Int32 → Option (Mem × Unit)
  | 0 => fun _ _ => none
  | n + 1 => f_X9_push_10b N (f_X9_push_10 N n)
theorem w_X9_push_10b (l : Launch) (E : EnvT) (N : Nat) (rec_10 : Mem → Int32 → Option (Mem × Unit)) (hrec_10 : ∀ (m0 : Mem) (x1 : Int32), V l E RX9 cX9_push 2 none (rm_X9_push) 0 0 (Zm E) rvV (rec_10 m0 x1) m0 10 [(0, .ref (eAd E 111)), (1, .int x1)] []) (m0 : Mem) (x1 : Int32) : V l E RX9 cX9_push 2 none (rm_X9_push) 0 0 (Zm E) rvV (f_X9_push_10b N rec_10 m0 x1) m0 10 [(0, .ref (eAd E 111)), (1, .int x1)] [] := by
  unfold f_X9_push_10b
  refine v_iload_n dX9_push_10 rfl 1 rfl ?_
  refine v_sipush (v := 1388) dX9_push_11 rfl ?_
  refine v_icmp_ge (tgt := 39) dX9_push_14 (by decide) ?_ ?_
  · refine v_aload_n dX9_push_39 rfl 0 rfl ?_
    refine v_dup dX9_push_40 rfl ?_
    refine gf_X9_pasts kc111 q825 dX9_push_41 ?_
    refine v_iconst (v := 1) dX9_push_44 rfl ?_
    refine v_isub dX9_push_45 ?_
    refine pf_X9_pasts kc111 q825 dX9_push_46 (fun m1 => ?_)
    refine v_sub [0] rfl ?_
    exact w_X9_push_49 l E N m1
  · refine v_aload_n dX9_push_17 rfl 0 rfl ?_
    refine gf_X9_past kc111 q824 dX9_push_18 ?_
    refine v_iload_n dX9_push_21 rfl 1 rfl ?_
    refine v_aload_n dX9_push_22 rfl 0 rfl ?_
    refine gf_X9_past kc111 q824 dX9_push_23 ?_
    refine v_iload_n dX9_push_26 rfl 1 rfl ?_
    refine v_sipush (v := 347) dX9_push_27 rfl ?_
    refine v_iadd dX9_push_30 ?_
    refine v_gd (fun g31 => ?_)
    refine v_iald kc114 rfl g31 dX9_push_31 ?_
    refine v_gd (fun g32 => ?_)
    refine v_iast kc114 rfl g32 dX9_push_32 (fun m2 => ?_)
    refine v_iinc (v := (x1 + 1)) (lv' := [(1, .int (x1 + 1)), (0, .ref (eAd E 111))]) dX9_push_33 1 rfl rfl (Nat.le_of_ble_eq_true rfl) rfl ?_
    refine v_goto (tgt := 10) dX9_push_36 (by decide) ?_
    refine v_sub [1, 0] rfl ?_
    exact hrec_10 m2 (x1 + 1)
theorem w_X9_push_10 (l : Launch) (E : EnvT) (N : Nat) : ∀ (n : Nat) (m0 : Mem) (x1 : Int32), V l E RX9 cX9_push 2 none (rm_X9_push) 0 0 (Zm E) rvV (f_X9_push_10 N n m0 x1) m0 10 [(0, .ref (eAd E 111)), (1, .int x1)] [] := by
  intro n
  induction n with
  | zero => intros; exact v_none
  | succ n ih => exact w_X9_push_10b l E N _ ih
def f_X9_push (N : Nat) (m0 : Mem) : Option (Mem × Unit) := if (m0 111 3) = 5 then (f_X9_push_10 N N m0 0) else (f_X9_push_49 N m0)
theorem c_X9_push (l : Launch) (E : EnvT) (N : Nat) (m0 : Mem) : CT l E yX9_push cX9_push 2 none (rm_X9_push) rvV (f_X9_push N m0) [.ref (eAd E 111)] m0 := by
  refine CT.ofV (own := RX9) (by decide) rfl (Nat.le_of_ble_eq_true rfl) ?_
  show V l E RX9 cX9_push 2 none (rm_X9_push) 0 0 (Zm E) rvV _ m0 0 [(0, .ref (eAd E 111))] []
  unfold f_X9_push
  refine v_aload_n dX9_push_0 rfl 0 rfl ?_
  refine gf_X9_pasts kc111 q825 dX9_push_1 ?_
  refine v_iconst (v := 5) dX9_push_4 rfl ?_
  refine v_icmp_ne (tgt := 49) dX9_push_5 (by decide) ?_ ?_
  · exact w_X9_push_49 l E N m0
  · refine v_iconst (v := 0) dX9_push_8 rfl ?_
    refine v_istore_n (lv' := [(1, .int 0), (0, .ref (eAd E 111))]) dX9_push_9 rfl (Nat.le_of_ble_eq_true rfl) rfl ?_
    refine v_sub [1, 0] rfl ?_
    exact w_X9_push_10 l E N N m0 0

def rm_X9_back : Room := { frames := 1, cells := 0, slots := 0, locals := 21 }
def f_X9_back_27b (N : Nat) (rec_27 : Mem → Int32 → Option (Mem × Int32)) (m0 : Mem) (x1 : Int32) : Option (Mem × Int32) := if 347 ≤ x1 then (some (m0, (m0 111 3))) else (gd (inR ((347 * (m0 111 3)) + x1) 1735) (gd (inR x1 347) (lm (up m0 112 (ix x1) (m0 114 (ix ((347 * (m0 111 3)) + x1)))) (fun m1 => (rec_27 m1 (x1 + 1))))))
def f_X9_back_27 (N : Nat) : Nat → Mem → Int32 → Option (Mem × Int32)
  | 0 => fun _ _ => none
  | n + 1 => f_X9_back_27b N (f_X9_back_27 N n)
theorem w_X9_back_27b (l : Launch) (E : EnvT) (N : Nat) (rec_27 : Mem → Int32 → Option (Mem × Int32)) (hrec_27 : ∀ (m0 : Mem) (x1 : Int32), V l E RX9 cX9_back 2 (some .int) (rm_X9_back) 0 0 (Zm E) rvI (rec_27 m0 x1) m0 27 [(0, .ref (eAd E 111)), (1, .int x1)] []) (m0 : Mem) (x1 : Int32) : V l E RX9 cX9_back 2 (some .int) (rm_X9_back) 0 0 (Zm E) rvI (f_X9_back_27b N rec_27 m0 x1) m0 27 [(0, .ref (eAd E 111)), (1, .int x1)] [] := by
  unfold f_X9_back_27b
  refine v_iload_n dX9_back_27 rfl 1 rfl ?_
  refine v_sipush (v := 347) dX9_back_28 rfl ?_
  refine v_icmp_ge (tgt := 61) dX9_back_31 (by decide) ?_ ?_
  · refine v_aload_n dX9_back_61 rfl 0 rfl ?_
    refine gf_X9_pasts kc111 q825 dX9_back_62 ?_
    exact v_iret dX9_back_65
  · refine v_aload_n dX9_back_34 rfl 0 rfl ?_
    refine gf_X9_now kc111 q822 dX9_back_35 ?_
    refine v_iload_n dX9_back_38 rfl 1 rfl ?_
    refine v_aload_n dX9_back_39 rfl 0 rfl ?_
    refine gf_X9_past kc111 q824 dX9_back_40 ?_
    refine v_sipush (v := 347) dX9_back_43 rfl ?_
    refine v_aload_n dX9_back_46 rfl 0 rfl ?_
    refine gf_X9_pasts kc111 q825 dX9_back_47 ?_
    refine v_imul dX9_back_50 ?_
    refine v_iload_n dX9_back_51 rfl 1 rfl ?_
    refine v_iadd dX9_back_52 ?_
    refine v_gd (fun g53 => ?_)
    refine v_iald kc114 rfl g53 dX9_back_53 ?_
    refine v_gd (fun g54 => ?_)
    refine v_iast kc112 rfl g54 dX9_back_54 (fun m1 => ?_)
    refine v_iinc (v := (x1 + 1)) (lv' := [(1, .int (x1 + 1)), (0, .ref (eAd E 111))]) dX9_back_55 1 rfl rfl (Nat.le_of_ble_eq_true rfl) rfl ?_
    refine v_goto (tgt := 27) dX9_back_58 (by decide) ?_
    refine v_sub [1, 0] rfl ?_
    exact hrec_27 m1 (x1 + 1)
theorem w_X9_back_27 (l : Launch) (E : EnvT) (N : Nat) : ∀ (n : Nat) (m0 : Mem) (x1 : Int32), V l E RX9 cX9_back 2 (some .int) (rm_X9_back) 0 0 (Zm E) rvI (f_X9_back_27 N n m0 x1) m0 27 [(0, .ref (eAd E 111)), (1, .int x1)] [] := by
  intro n
  induction n with
  | zero => intros; exact v_none
  | succ n ih => exact w_X9_back_27b l E N _ ih
def f_X9_back (N : Nat) (m0 : Mem) : Option (Mem × Int32) := if (m0 111 3) = 0 then (bm (f_X9_refuses m0 (-10003)) (fun m2 r2 => some (m2, r2))) else (lm (up m0 111 3 ((m0 111 3) - 1)) (fun m1 => (f_X9_back_27 N N m1 0)))
theorem c_X9_back (l : Launch) (E : EnvT) (N : Nat) (m0 : Mem) : CT l E yX9_back cX9_back 2 (some .int) (rm_X9_back) rvI (f_X9_back N m0) [.ref (eAd E 111)] m0 := by
  refine CT.ofV (own := RX9) (by decide) rfl (Nat.le_of_ble_eq_true rfl) ?_
  show V l E RX9 cX9_back 2 (some .int) (rm_X9_back) 0 0 (Zm E) rvI _ m0 0 [(0, .ref (eAd E 111))] []
  unfold f_X9_back
  refine v_aload_n dX9_back_0 rfl 0 rfl ?_
  refine gf_X9_pasts kc111 q825 dX9_back_1 ?_
  refine v_if_ne (tgt := 15) dX9_back_4 (by decide) ?_ ?_
  · refine v_aload_n dX9_back_15 rfl 0 rfl ?_
    refine v_dup dX9_back_16 rfl ?_
    refine gf_X9_pasts kc111 q825 dX9_back_17 ?_
    refine v_iconst (v := 1) dX9_back_20 rfl ?_
    refine v_isub dX9_back_21 ?_
    refine pf_X9_pasts kc111 q825 dX9_back_22 (fun m1 => ?_)
    refine v_iconst (v := 0) dX9_back_25 rfl ?_
    refine v_istore_n (lv' := [(1, .int 0), (0, .ref (eAd E 111))]) dX9_back_26 rfl (Nat.le_of_ble_eq_true rfl) rfl ?_
    refine v_sub [1, 0] rfl ?_
    exact w_X9_back_27 l E N N m1 0
  · refine v_aload_n dX9_back_7 rfl 0 rfl ?_
    refine v_sipush (v := (-10003)) dX9_back_8 rfl ?_
    refine v_callVi (q := 111) (ci := 9) (C := RX9) (T := TX9) (NN := 24) (As := [.int (-10003)]) (rest := []) (c_X9_refuses l E m0 (-10003)) kv_X9_refuses kc111 (by decide) rfl q900 ⟨rfl, rfl⟩ ⟨Nat.le_of_ble_eq_true rfl, Nat.le_of_ble_eq_true rfl⟩ ⟨Nat.zero_le _, Nat.zero_le _⟩ rfl rfl (Nat.le_of_ble_eq_true rfl) dX9_back_11 (fun m2 r2 => ?_)
    exact v_iret dX9_back_14

def rm_X9_isSmall : Room := { frames := 1, cells := 0, slots := 0, locals := 22 }
def f_X9_isSmall (m0 : Mem) (x0 : Int32) : Option (Mem × Int32) := bm (f_X9_in m0 x0 97 122) (fun m1 r1 => gd (isB r1) (some (m1, r1)))
theorem c_X9_isSmall (l : Launch) (E : EnvT) (m0 : Mem) (x0 : Int32) : CT l E yX9_isSmall cX9_isSmall 1 (some .boolean) (rm_X9_isSmall) rvI (f_X9_isSmall m0 x0) [.int x0] m0 := by
  refine CT.ofV (own := RX9) (by decide) rfl (Nat.le_of_ble_eq_true rfl) ?_
  show V l E RX9 cX9_isSmall 1 (some .boolean) (rm_X9_isSmall) 0 0 (Zm E) rvI _ m0 0 [(0, .int x0)] []
  unfold f_X9_isSmall
  refine v_iload_n dX9_isSmall_0 rfl 0 rfl ?_
  refine v_bipush (v := 97) dX9_isSmall_1 rfl ?_
  refine v_bipush (v := 122) dX9_isSmall_3 rfl ?_
  refine v_callSi (As := [.int x0, .int 97, .int 122]) (rest := []) (c_X9_in l E m0 x0 97 122) ks_X9_in q912 ⟨rfl, rfl⟩ ⟨Nat.le_of_ble_eq_true rfl, Nat.le_of_ble_eq_true rfl⟩ ⟨Nat.zero_le _, Nat.zero_le _⟩ rfl rfl (Nat.le_of_ble_eq_true rfl) dX9_isSmall_5 (fun m1 r1 => ?_)
  refine v_gd (fun g8 => ?_)
  exact v_zret g8 dX9_isSmall_8

def rm_X9_isCapital : Room := { frames := 1, cells := 0, slots := 0, locals := 22 }
def f_X9_isCapital (m0 : Mem) (x0 : Int32) : Option (Mem × Int32) := bm (f_X9_in m0 x0 65 90) (fun m1 r1 => gd (isB r1) (some (m1, r1)))
theorem c_X9_isCapital (l : Launch) (E : EnvT) (m0 : Mem) (x0 : Int32) : CT l E yX9_isCapital cX9_isCapital 1 (some .boolean) (rm_X9_isCapital) rvI (f_X9_isCapital m0 x0) [.int x0] m0 := by
  refine CT.ofV (own := RX9) (by decide) rfl (Nat.le_of_ble_eq_true rfl) ?_
  show V l E RX9 cX9_isCapital 1 (some .boolean) (rm_X9_isCapital) 0 0 (Zm E) rvI _ m0 0 [(0, .int x0)] []
  unfold f_X9_isCapital
  refine v_iload_n dX9_isCapital_0 rfl 0 rfl ?_
  refine v_bipush (v := 65) dX9_isCapital_1 rfl ?_
  refine v_bipush (v := 90) dX9_isCapital_3 rfl ?_
  refine v_callSi (As := [.int x0, .int 65, .int 90]) (rest := []) (c_X9_in l E m0 x0 65 90) ks_X9_in q912 ⟨rfl, rfl⟩ ⟨Nat.le_of_ble_eq_true rfl, Nat.le_of_ble_eq_true rfl⟩ ⟨Nat.zero_le _, Nat.zero_le _⟩ rfl rfl (Nat.le_of_ble_eq_true rfl) dX9_isCapital_5 (fun m1 r1 => ?_)
  refine v_gd (fun g8 => ?_)
  exact v_zret g8 dX9_isCapital_8

def rm_X9_isLetter : Room := { frames := 2, cells := 0, slots := 0, locals := 42 }
def f_X9_isLetter_14 (m0 : Mem) : Option (Mem × Int32) := some (m0, 1)
theorem w_X9_isLetter_14 (l : Launch) (E : EnvT) (m0 : Mem) : V l E RX9 cX9_isLetter 1 (some .boolean) (rm_X9_isLetter) 0 0 (Zm E) rvI (f_X9_isLetter_14 m0) m0 14 [] [] := by
  unfold f_X9_isLetter_14
  refine v_iconst (v := 1) dX9_isLetter_14 rfl ?_
  refine v_goto (tgt := 19) dX9_isLetter_15 (by decide) ?_
  exact v_zret rfl dX9_isLetter_19
def f_X9_isLetter (m0 : Mem) (x0 : Int32) : Option (Mem × Int32) := bm (f_X9_isSmall m0 x0) (fun m1 r1 => if r1 = 0 then (bm (f_X9_isCapital m1 x0) (fun m2 r2 => if r2 = 0 then (some (m2, 0)) else (f_X9_isLetter_14 m2))) else (f_X9_isLetter_14 m1))
theorem c_X9_isLetter (l : Launch) (E : EnvT) (m0 : Mem) (x0 : Int32) : CT l E yX9_isLetter cX9_isLetter 1 (some .boolean) (rm_X9_isLetter) rvI (f_X9_isLetter m0 x0) [.int x0] m0 := by
  refine CT.ofV (own := RX9) (by decide) rfl (Nat.le_of_ble_eq_true rfl) ?_
  show V l E RX9 cX9_isLetter 1 (some .boolean) (rm_X9_isLetter) 0 0 (Zm E) rvI _ m0 0 [(0, .int x0)] []
  unfold f_X9_isLetter
  refine v_iload_n dX9_isLetter_0 rfl 0 rfl ?_
  refine v_callSi (As := [.int x0]) (rest := []) (c_X9_isSmall l E m0 x0) ks_X9_isSmall q926 ⟨rfl, rfl⟩ ⟨Nat.le_of_ble_eq_true rfl, Nat.le_of_ble_eq_true rfl⟩ ⟨Nat.zero_le _, Nat.zero_le _⟩ rfl rfl (Nat.le_of_ble_eq_true rfl) dX9_isLetter_1 (fun m1 r1 => ?_)
  refine v_if_ne (tgt := 14) dX9_isLetter_4 (by decide) ?_ ?_
  · refine v_sub [] rfl ?_
    exact w_X9_isLetter_14 l E m1
  · refine v_iload_n dX9_isLetter_7 rfl 0 rfl ?_
    refine v_callSi (As := [.int x0]) (rest := []) (c_X9_isCapital l E m1 x0) ks_X9_isCapital q923 ⟨rfl, rfl⟩ ⟨Nat.le_of_ble_eq_true rfl, Nat.le_of_ble_eq_true rfl⟩ ⟨Nat.zero_le _, Nat.zero_le _⟩ rfl rfl (Nat.le_of_ble_eq_true rfl) dX9_isLetter_8 (fun m2 r2 => ?_)
    refine v_if_eq (tgt := 18) dX9_isLetter_11 (by decide) ?_ ?_
    · refine v_iconst (v := 0) dX9_isLetter_18 rfl ?_
      exact v_zret rfl dX9_isLetter_19
    · refine v_sub [] rfl ?_
      exact w_X9_isLetter_14 l E m2

def rm_X9_small : Room := { frames := 2, cells := 0, slots := 0, locals := 42 }
def f_X9_small (m0 : Mem) (x0 : Int32) : Option (Mem × Int32) := bm (f_X9_isCapital m0 x0) (fun m1 r1 => if r1 = 0 then (some (m1, x0)) else (some (m1, (x0 + 32))))
theorem c_X9_small (l : Launch) (E : EnvT) (m0 : Mem) (x0 : Int32) : CT l E yX9_small cX9_small 1 (some .int) (rm_X9_small) rvI (f_X9_small m0 x0) [.int x0] m0 := by
  refine CT.ofV (own := RX9) (by decide) rfl (Nat.le_of_ble_eq_true rfl) ?_
  show V l E RX9 cX9_small 1 (some .int) (rm_X9_small) 0 0 (Zm E) rvI _ m0 0 [(0, .int x0)] []
  unfold f_X9_small
  refine v_iload_n dX9_small_0 rfl 0 rfl ?_
  refine v_callSi (As := [.int x0]) (rest := []) (c_X9_isCapital l E m0 x0) ks_X9_isCapital q923 ⟨rfl, rfl⟩ ⟨Nat.le_of_ble_eq_true rfl, Nat.le_of_ble_eq_true rfl⟩ ⟨Nat.zero_le _, Nat.zero_le _⟩ rfl rfl (Nat.le_of_ble_eq_true rfl) dX9_small_1 (fun m1 r1 => ?_)
  refine v_if_eq (tgt := 14) dX9_small_4 (by decide) ?_ ?_
  · refine v_iload_n dX9_small_14 rfl 0 rfl ?_
    exact v_iret dX9_small_15
  · refine v_iload_n dX9_small_7 rfl 0 rfl ?_
    refine v_bipush (v := 32) dX9_small_8 rfl ?_
    refine v_iadd dX9_small_10 ?_
    refine v_goto (tgt := 15) dX9_small_11 (by decide) ?_
    exact v_iret dX9_small_15

def rm_X9_ofNode : Room := { frames := 0, cells := 0, slots := 0, locals := 0 }
def f_X9_ofNode (m0 : Mem) (x1 : Int32) (x2 : Int32) : Option (Mem × Int32) := gd (inR ((27 + (20 * x1)) + x2) 347) (some (m0, (m0 112 (ix ((27 + (20 * x1)) + x2)))))
theorem c_X9_ofNode (l : Launch) (E : EnvT) (m0 : Mem) (x1 : Int32) (x2 : Int32) : CT l E yX9_ofNode cX9_ofNode 3 (some .int) (rm_X9_ofNode) rvI (f_X9_ofNode m0 x1 x2) [.ref (eAd E 111), .int x1, .int x2] m0 := by
  refine CT.ofV (own := RX9) (by decide) rfl (Nat.le_of_ble_eq_true rfl) ?_
  show V l E RX9 cX9_ofNode 3 (some .int) (rm_X9_ofNode) 0 0 (Zm E) rvI _ m0 0 [(0, .ref (eAd E 111)), (1, .int x1), (2, .int x2)] []
  unfold f_X9_ofNode
  refine v_aload_n dX9_ofNode_0 rfl 0 rfl ?_
  refine gf_X9_now kc111 q822 dX9_ofNode_1 ?_
  refine v_bipush (v := 27) dX9_ofNode_4 rfl ?_
  refine v_bipush (v := 20) dX9_ofNode_6 rfl ?_
  refine v_iload_n dX9_ofNode_8 rfl 1 rfl ?_
  refine v_imul dX9_ofNode_9 ?_
  refine v_iadd dX9_ofNode_10 ?_
  refine v_iload_n dX9_ofNode_11 rfl 2 rfl ?_
  refine v_iadd dX9_ofNode_12 ?_
  refine v_gd (fun g13 => ?_)
  refine v_iald kc112 rfl g13 dX9_ofNode_13 ?_
  exact v_iret dX9_ofNode_14

def rm_X9_put : Room := { frames := 0, cells := 0, slots := 0, locals := 0 }
def f_X9_put (m0 : Mem) (x1 : Int32) (x2 : Int32) (x3 : Int32) : Option (Mem × Unit) := gd (inR ((27 + (20 * x1)) + x2) 347) (lm (up m0 112 (ix ((27 + (20 * x1)) + x2)) x3) (fun m1 => some (m1, ())))
theorem c_X9_put (l : Launch) (E : EnvT) (m0 : Mem) (x1 : Int32) (x2 : Int32) (x3 : Int32) : CT l E yX9_put cX9_put 4 none (rm_X9_put) rvV (f_X9_put m0 x1 x2 x3) [.ref (eAd E 111), .int x1, .int x2, .int x3] m0 := by
  refine CT.ofV (own := RX9) (by decide) rfl (Nat.le_of_ble_eq_true rfl) ?_
  show V l E RX9 cX9_put 4 none (rm_X9_put) 0 0 (Zm E) rvV _ m0 0 [(0, .ref (eAd E 111)), (1, .int x1), (2, .int x2), (3, .int x3)] []
  unfold f_X9_put
  refine v_aload_n dX9_put_0 rfl 0 rfl ?_
  refine gf_X9_now kc111 q822 dX9_put_1 ?_
  refine v_bipush (v := 27) dX9_put_4 rfl ?_
  refine v_bipush (v := 20) dX9_put_6 rfl ?_
  refine v_iload_n dX9_put_8 rfl 1 rfl ?_
  refine v_imul dX9_put_9 ?_
  refine v_iadd dX9_put_10 ?_
  refine v_iload_n dX9_put_11 rfl 2 rfl ?_
  refine v_iadd dX9_put_12 ?_
  refine v_iload_n dX9_put_13 rfl 3 rfl ?_
  refine v_gd (fun g14 => ?_)
  refine v_iast kc112 rfl g14 dX9_put_14 (fun m1 => ?_)
  exact v_vret dX9_put_15

def rm_X9_isNode : Room := { frames := 1, cells := 0, slots := 0, locals := 22 }
def f_X9_isNode (m0 : Mem) (x1 : Int32) : Option (Mem × Int32) := gd (inR 0 347) (bm (f_X9_in m0 x1 0 ((m0 112 (ix 0)) - 1)) (fun m1 r1 => gd (isB r1) (some (m1, r1))))
theorem c_X9_isNode (l : Launch) (E : EnvT) (m0 : Mem) (x1 : Int32) : CT l E yX9_isNode cX9_isNode 2 (some .boolean) (rm_X9_isNode) rvI (f_X9_isNode m0 x1) [.ref (eAd E 111), .int x1] m0 := by
  refine CT.ofV (own := RX9) (by decide) rfl (Nat.le_of_ble_eq_true rfl) ?_
  show V l E RX9 cX9_isNode 2 (some .boolean) (rm_X9_isNode) 0 0 (Zm E) rvI _ m0 0 [(0, .ref (eAd E 111)), (1, .int x1)] []
  unfold f_X9_isNode
  refine v_iload_n dX9_isNode_0 rfl 1 rfl ?_
  refine v_iconst (v := 0) dX9_isNode_1 rfl ?_
  refine v_aload_n dX9_isNode_2 rfl 0 rfl ?_
  refine gf_X9_now kc111 q822 dX9_isNode_3 ?_
  refine v_iconst (v := 0) dX9_isNode_6 rfl ?_
  refine v_gd (fun g7 => ?_)
  refine v_iald kc112 rfl g7 dX9_isNode_7 ?_
  refine v_iconst (v := 1) dX9_isNode_8 rfl ?_
  refine v_isub dX9_isNode_9 ?_
  refine v_callSi (As := [.int x1, .int 0, .int ((m0 112 (ix 0)) - 1)]) (rest := []) (c_X9_in l E m0 x1 0 ((m0 112 (ix 0)) - 1)) ks_X9_in q912 ⟨rfl, rfl⟩ ⟨Nat.le_of_ble_eq_true rfl, Nat.le_of_ble_eq_true rfl⟩ ⟨Nat.zero_le _, Nat.zero_le _⟩ rfl rfl (Nat.le_of_ble_eq_true rfl) dX9_isNode_10 (fun m1 r1 => ?_)
  refine v_gd (fun g13 => ?_)
  exact v_zret g13 dX9_isNode_13

def rm_X9_isKind : Room := { frames := 2, cells := 0, slots := 0, locals := 43 }
def f_X9_isKind (m0 : Mem) (x1 : Int32) (x2 : Int32) : Option (Mem × Int32) := bm (f_X9_isNode m0 x1) (fun m1 r1 => if r1 = 0 then (some (m1, 0)) else (if x1 ≤ 0 then (some (m1, 0)) else (bm (f_X9_ofNode m1 x1 1) (fun m2 r2 => if r2 = x2 then (some (m2, 1)) else (some (m2, 0))))))
theorem c_X9_isKind (l : Launch) (E : EnvT) (m0 : Mem) (x1 : Int32) (x2 : Int32) : CT l E yX9_isKind cX9_isKind 3 (some .boolean) (rm_X9_isKind) rvI (f_X9_isKind m0 x1 x2) [.ref (eAd E 111), .int x1, .int x2] m0 := by
  refine CT.ofV (own := RX9) (by decide) rfl (Nat.le_of_ble_eq_true rfl) ?_
  show V l E RX9 cX9_isKind 3 (some .boolean) (rm_X9_isKind) 0 0 (Zm E) rvI _ m0 0 [(0, .ref (eAd E 111)), (1, .int x1), (2, .int x2)] []
  unfold f_X9_isKind
  refine v_aload_n dX9_isKind_0 rfl 0 rfl ?_
  refine v_iload_n dX9_isKind_1 rfl 1 rfl ?_
  refine v_callVi (q := 111) (ci := 9) (C := RX9) (T := TX9) (NN := 24) (As := [.int x1]) (rest := []) (c_X9_isNode l E m0 x1) kv_X9_isNode kc111 (by decide) rfl q908 ⟨rfl, rfl⟩ ⟨Nat.le_of_ble_eq_true rfl, Nat.le_of_ble_eq_true rfl⟩ ⟨Nat.zero_le _, Nat.zero_le _⟩ rfl rfl (Nat.le_of_ble_eq_true rfl) dX9_isKind_2 (fun m1 r1 => ?_)
  refine v_if_eq (tgt := 26) dX9_isKind_5 (by decide) ?_ ?_
  · refine v_iconst (v := 0) dX9_isKind_26 rfl ?_
    exact v_zret rfl dX9_isKind_27
  · refine v_iload_n dX9_isKind_8 rfl 1 rfl ?_
    refine v_if_le (tgt := 26) dX9_isKind_9 (by decide) ?_ ?_
    · refine v_iconst (v := 0) dX9_isKind_26 rfl ?_
      exact v_zret rfl dX9_isKind_27
    · refine v_aload_n dX9_isKind_12 rfl 0 rfl ?_
      refine v_iload_n dX9_isKind_13 rfl 1 rfl ?_
      refine v_iconst (v := 1) dX9_isKind_14 rfl ?_
      refine v_callVi (q := 111) (ci := 9) (C := RX9) (T := TX9) (NN := 24) (As := [.int x1, .int 1]) (rest := []) (c_X9_ofNode l E m1 x1 1) kv_X9_ofNode kc111 (by decide) rfl q915 ⟨rfl, rfl⟩ ⟨Nat.le_of_ble_eq_true rfl, Nat.le_of_ble_eq_true rfl⟩ ⟨Nat.zero_le _, Nat.zero_le _⟩ rfl rfl (Nat.le_of_ble_eq_true rfl) dX9_isKind_15 (fun m2 r2 => ?_)
      refine v_iload_n dX9_isKind_18 rfl 2 rfl ?_
      refine v_icmp_ne (tgt := 26) dX9_isKind_19 (by decide) ?_ ?_
      · refine v_iconst (v := 0) dX9_isKind_26 rfl ?_
        exact v_zret rfl dX9_isKind_27
      · refine v_iconst (v := 1) dX9_isKind_22 rfl ?_
        refine v_goto (tgt := 27) dX9_isKind_23 (by decide) ?_
        exact v_zret rfl dX9_isKind_27

def rm_X9_capitals : Room := { frames := 2, cells := 0, slots := 0, locals := 42 }
def f_X9_capitals_74 (N : Nat) (rec_45 : Mem → Int32 → Int32 → Int32 → Option (Mem × Int32)) (m0 : Mem) (x1 : Int32) (x3 : Int32) (s0 : Int32) : Option (Mem × Int32) := (rec_45 m0 x1 s0 (x3 + 1))
theorem w_X9_capitals_74 (l : Launch) (E : EnvT) (N : Nat) (rec_45 : Mem → Int32 → Int32 → Int32 → Option (Mem × Int32)) (hrec_45 : ∀ (m0 : Mem) (x1 : Int32) (x2 : Int32) (x3 : Int32), V l E RX9 cX9_capitals 4 (some .int) (rm_X9_capitals) 0 0 (Zm E) rvI (rec_45 m0 x1 x2 x3) m0 45 [(0, .ref (eAd E 111)), (1, .int x1), (2, .int x2), (3, .int x3)] []) (m0 : Mem) (x1 : Int32) (x3 : Int32) (s0 : Int32) : V l E RX9 cX9_capitals 4 (some .int) (rm_X9_capitals) 0 0 (Zm E) rvI (f_X9_capitals_74 N rec_45 m0 x1 x3 s0) m0 74 [(0, .ref (eAd E 111)), (1, .int x1), (3, .int x3)] [.int s0] := by
  unfold f_X9_capitals_74
  refine v_istore_n (lv' := [(2, .int s0), (0, .ref (eAd E 111)), (1, .int x1), (3, .int x3)]) dX9_capitals_74 rfl (Nat.le_of_ble_eq_true rfl) rfl ?_
  refine v_iinc (v := (x3 + 1)) (lv' := [(3, .int (x3 + 1)), (2, .int s0), (0, .ref (eAd E 111)), (1, .int x1)]) dX9_capitals_75 3 rfl rfl (Nat.le_of_ble_eq_true rfl) rfl ?_
  refine v_goto (tgt := 45) dX9_capitals_78 (by decide) ?_
  refine v_sub [2, 3, 1, 0] rfl ?_
  exact hrec_45 m0 x1 s0 (x3 + 1)
def f_X9_capitals_73 (N : Nat) (rec_45 : Mem → Int32 → Int32 → Int32 → Option (Mem × Int32)) (m0 : Mem) (x1 : Int32) (x3 : Int32) : Option (Mem × Int32) := (f_X9_capitals_74 N rec_45 m0 x1 x3 0)
theorem w_X9_capitals_73 (l : Launch) (E : EnvT) (N : Nat) (rec_45 : Mem → Int32 → Int32 → Int32 → Option (Mem × Int32)) (hrec_45 : ∀ (m0 : Mem) (x1 : Int32) (x2 : Int32) (x3 : Int32), V l E RX9 cX9_capitals 4 (some .int) (rm_X9_capitals) 0 0 (Zm E) rvI (rec_45 m0 x1 x2 x3) m0 45 [(0, .ref (eAd E 111)), (1, .int x1), (2, .int x2), (3, .int x3)] []) (m0 : Mem) (x1 : Int32) (x3 : Int32) : V l E RX9 cX9_capitals 4 (some .int) (rm_X9_capitals) 0 0 (Zm E) rvI (f_X9_capitals_73 N rec_45 m0 x1 x3) m0 73 [(0, .ref (eAd E 111)), (1, .int x1), (3, .int x3)] [] := by
  unfold f_X9_capitals_73
  refine v_iconst (v := 0) dX9_capitals_73 rfl ?_
  exact w_X9_capitals_74 l E N rec_45 hrec_45 m0 x1 x3 0
def f_X9_capitals_45b (N : Nat) (rec_45 : Mem → Int32 → Int32 → Int32 → Option (Mem × Int32)) (m0 : Mem) (x1 : Int32) (x2 : Int32) (x3 : Int32) : Option (Mem × Int32) := if (m0 111 6) ≤ x3 then (if x2 = 0 then (some (m0, 0)) else (some (m0, x1))) else (if x2 = 0 then (f_X9_capitals_73 N rec_45 m0 x1 x3) else (gd (inR x3 100) (bm (f_X9_isSmall m0 (m0 116 (ix x3))) (fun m1 r1 => if r1 = 0 then (f_X9_capitals_73 N rec_45 m1 x1 x3) else (f_X9_capitals_74 N rec_45 m1 x1 x3 1)))))
def f_X9_capitals_45 (N : Nat) : Nat → Mem → Int32 → Int32 → Int32 → Option (Mem × Int32)
  | 0 => fun _ _ _ _ => none
  | n + 1 => f_X9_capitals_45b N (f_X9_capitals_45 N n)
theorem w_X9_capitals_45b (l : Launch) (E : EnvT) (N : Nat) (rec_45 : Mem → Int32 → Int32 → Int32 → Option (Mem × Int32)) (hrec_45 : ∀ (m0 : Mem) (x1 : Int32) (x2 : Int32) (x3 : Int32), V l E RX9 cX9_capitals 4 (some .int) (rm_X9_capitals) 0 0 (Zm E) rvI (rec_45 m0 x1 x2 x3) m0 45 [(0, .ref (eAd E 111)), (1, .int x1), (2, .int x2), (3, .int x3)] []) (m0 : Mem) (x1 : Int32) (x2 : Int32) (x3 : Int32) : V l E RX9 cX9_capitals 4 (some .int) (rm_X9_capitals) 0 0 (Zm E) rvI (f_X9_capitals_45b N rec_45 m0 x1 x2 x3) m0 45 [(0, .ref (eAd E 111)), (1, .int x1), (2, .int x2), (3, .int x3)] [] := by
  unfold f_X9_capitals_45b
  refine v_iload_n dX9_capitals_45 rfl 3 rfl ?_
  refine v_aload_n dX9_capitals_46 rfl 0 rfl ?_
  refine gf_X9_typed kc111 q828 dX9_capitals_47 ?_
  refine v_icmp_ge (tgt := 81) dX9_capitals_50 (by decide) ?_ ?_
  · refine v_iload_n dX9_capitals_81 rfl 2 rfl ?_
    refine v_if_eq (tgt := 89) dX9_capitals_82 (by decide) ?_ ?_
    · refine v_iconst (v := 0) dX9_capitals_89 rfl ?_
      exact v_iret dX9_capitals_90
    · refine v_iload_n dX9_capitals_85 rfl 1 rfl ?_
      refine v_goto (tgt := 90) dX9_capitals_86 (by decide) ?_
      exact v_iret dX9_capitals_90
  · refine v_iload_n dX9_capitals_53 rfl 2 rfl ?_
    refine v_if_eq (tgt := 73) dX9_capitals_54 (by decide) ?_ ?_
    · refine v_sub [0, 1, 3] rfl ?_
      exact w_X9_capitals_73 l E N rec_45 hrec_45 m0 x1 x3
    · refine v_aload_n dX9_capitals_57 rfl 0 rfl ?_
      refine gf_X9_text kc111 q827 dX9_capitals_58 ?_
      refine v_iload_n dX9_capitals_61 rfl 3 rfl ?_
      refine v_gd (fun g62 => ?_)
      refine v_iald kc116 rfl g62 dX9_capitals_62 ?_
      refine v_callSi (As := [.int (m0 116 (ix x3))]) (rest := []) (c_X9_isSmall l E m0 (m0 116 (ix x3))) ks_X9_isSmall q926 ⟨rfl, rfl⟩ ⟨Nat.le_of_ble_eq_true rfl, Nat.le_of_ble_eq_true rfl⟩ ⟨Nat.zero_le _, Nat.zero_le _⟩ rfl rfl (Nat.le_of_ble_eq_true rfl) dX9_capitals_63 (fun m1 r1 => ?_)
      refine v_if_eq (tgt := 73) dX9_capitals_66 (by decide) ?_ ?_
      · refine v_sub [0, 1, 3] rfl ?_
        exact w_X9_capitals_73 l E N rec_45 hrec_45 m1 x1 x3
      · refine v_iconst (v := 1) dX9_capitals_69 rfl ?_
        refine v_goto (tgt := 74) dX9_capitals_70 (by decide) ?_
        refine v_sub [0, 1, 3] rfl ?_
        exact w_X9_capitals_74 l E N rec_45 hrec_45 m1 x1 x3 1
theorem w_X9_capitals_45 (l : Launch) (E : EnvT) (N : Nat) : ∀ (n : Nat) (m0 : Mem) (x1 : Int32) (x2 : Int32) (x3 : Int32), V l E RX9 cX9_capitals 4 (some .int) (rm_X9_capitals) 0 0 (Zm E) rvI (f_X9_capitals_45 N n m0 x1 x2 x3) m0 45 [(0, .ref (eAd E 111)), (1, .int x1), (2, .int x2), (3, .int x3)] [] := by
  intro n
  induction n with
  | zero => intros; exact v_none
  | succ n ih => exact w_X9_capitals_45b l E N _ ih
def f_X9_capitals_42 (N : Nat) (m0 : Mem) (x1 : Int32) (s0 : Int32) : Option (Mem × Int32) := (f_X9_capitals_45 N N m0 x1 s0 x1)
theorem w_X9_capitals_42 (l : Launch) (E : EnvT) (N : Nat) (m0 : Mem) (x1 : Int32) (s0 : Int32) : V l E RX9 cX9_capitals 4 (some .int) (rm_X9_capitals) 0 0 (Zm E) rvI (f_X9_capitals_42 N m0 x1 s0) m0 42 [(0, .ref (eAd E 111)), (1, .int x1)] [.int s0] := by
  unfold f_X9_capitals_42
  refine v_istore_n (lv' := [(2, .int s0), (0, .ref (eAd E 111)), (1, .int x1)]) dX9_capitals_42 rfl (Nat.le_of_ble_eq_true rfl) rfl ?_
  refine v_iload_n dX9_capitals_43 rfl 2 rfl ?_
  refine v_istore_n (lv' := [(3, .int x1), (2, .int s0), (0, .ref (eAd E 111)), (1, .int x1)]) dX9_capitals_44 rfl (Nat.le_of_ble_eq_true rfl) rfl ?_
  refine v_sub [2, 3, 1, 0] rfl ?_
  exact w_X9_capitals_45 l E N N m0 x1 s0 x1
def f_X9_capitals_28 (N : Nat) (m0 : Mem) (x1 : Int32) : Option (Mem × Int32) := if 8 < (m0 111 6) then (f_X9_capitals_42 N m0 x1 0) else (f_X9_capitals_42 N m0 x1 1)
theorem w_X9_capitals_28 (l : Launch) (E : EnvT) (N : Nat) (m0 : Mem) (x1 : Int32) : V l E RX9 cX9_capitals 4 (some .int) (rm_X9_capitals) 0 0 (Zm E) rvI (f_X9_capitals_28 N m0 x1) m0 28 [(0, .ref (eAd E 111)), (1, .int x1)] [] := by
  unfold f_X9_capitals_28
  refine v_aload_n dX9_capitals_28 rfl 0 rfl ?_
  refine gf_X9_typed kc111 q828 dX9_capitals_29 ?_
  refine v_bipush (v := 8) dX9_capitals_32 rfl ?_
  refine v_icmp_gt (tgt := 41) dX9_capitals_34 (by decide) ?_ ?_
  · refine v_iconst (v := 0) dX9_capitals_41 rfl ?_
    exact w_X9_capitals_42 l E N m0 x1 0
  · refine v_iconst (v := 1) dX9_capitals_37 rfl ?_
    refine v_goto (tgt := 42) dX9_capitals_38 (by decide) ?_
    exact w_X9_capitals_42 l E N m0 x1 1
def f_X9_capitals_2b (N : Nat) (rec_2 : Mem → Int32 → Option (Mem × Int32)) (m0 : Mem) (x1 : Int32) : Option (Mem × Int32) := if (m0 111 6) ≤ x1 then (f_X9_capitals_28 N m0 x1) else (gd (inR x1 100) (bm (f_X9_isCapital m0 (m0 116 (ix x1))) (fun m1 r1 => if r1 = 0 then (f_X9_capitals_28 N m1 x1) else (rec_2 m1 (x1 + 1)))))
def f_X9_capitals_2 (N : Nat) : Nat → Mem → Int32 → Option (Mem × Int32)
  | 0 => fun _ _ => none
  | n + 1 => f_X9_capitals_2b N (f_X9_capitals_2 N n)
theorem w_X9_capitals_2b (l : Launch) (E : EnvT) (N : Nat) (rec_2 : Mem → Int32 → Option (Mem × Int32)) (hrec_2 : ∀ (m0 : Mem) (x1 : Int32), V l E RX9 cX9_capitals 4 (some .int) (rm_X9_capitals) 0 0 (Zm E) rvI (rec_2 m0 x1) m0 2 [(0, .ref (eAd E 111)), (1, .int x1)] []) (m0 : Mem) (x1 : Int32) : V l E RX9 cX9_capitals 4 (some .int) (rm_X9_capitals) 0 0 (Zm E) rvI (f_X9_capitals_2b N rec_2 m0 x1) m0 2 [(0, .ref (eAd E 111)), (1, .int x1)] [] := by
  unfold f_X9_capitals_2b
  refine v_iload_n dX9_capitals_2 rfl 1 rfl ?_
  refine v_aload_n dX9_capitals_3 rfl 0 rfl ?_
  refine gf_X9_typed kc111 q828 dX9_capitals_4 ?_
  refine v_icmp_ge (tgt := 28) dX9_capitals_7 (by decide) ?_ ?_
  · exact w_X9_capitals_28 l E N m0 x1
  · refine v_aload_n dX9_capitals_10 rfl 0 rfl ?_
    refine gf_X9_text kc111 q827 dX9_capitals_11 ?_
    refine v_iload_n dX9_capitals_14 rfl 1 rfl ?_
    refine v_gd (fun g15 => ?_)
    refine v_iald kc116 rfl g15 dX9_capitals_15 ?_
    refine v_callSi (As := [.int (m0 116 (ix x1))]) (rest := []) (c_X9_isCapital l E m0 (m0 116 (ix x1))) ks_X9_isCapital q923 ⟨rfl, rfl⟩ ⟨Nat.le_of_ble_eq_true rfl, Nat.le_of_ble_eq_true rfl⟩ ⟨Nat.zero_le _, Nat.zero_le _⟩ rfl rfl (Nat.le_of_ble_eq_true rfl) dX9_capitals_16 (fun m1 r1 => ?_)
    refine v_if_eq (tgt := 28) dX9_capitals_19 (by decide) ?_ ?_
    · exact w_X9_capitals_28 l E N m1 x1
    · refine v_iinc (v := (x1 + 1)) (lv' := [(1, .int (x1 + 1)), (0, .ref (eAd E 111))]) dX9_capitals_22 1 rfl rfl (Nat.le_of_ble_eq_true rfl) rfl ?_
      refine v_goto (tgt := 2) dX9_capitals_25 (by decide) ?_
      refine v_sub [1, 0] rfl ?_
      exact hrec_2 m1 (x1 + 1)
theorem w_X9_capitals_2 (l : Launch) (E : EnvT) (N : Nat) : ∀ (n : Nat) (m0 : Mem) (x1 : Int32), V l E RX9 cX9_capitals 4 (some .int) (rm_X9_capitals) 0 0 (Zm E) rvI (f_X9_capitals_2 N n m0 x1) m0 2 [(0, .ref (eAd E 111)), (1, .int x1)] [] := by
  intro n
  induction n with
  | zero => intros; exact v_none
  | succ n ih => exact w_X9_capitals_2b l E N _ ih
def f_X9_capitals (N : Nat) (m0 : Mem) : Option (Mem × Int32) := (f_X9_capitals_2 N N m0 0)
theorem c_X9_capitals (l : Launch) (E : EnvT) (N : Nat) (m0 : Mem) : CT l E yX9_capitals cX9_capitals 4 (some .int) (rm_X9_capitals) rvI (f_X9_capitals N m0) [.ref (eAd E 111)] m0 := by
  refine CT.ofV (own := RX9) (by decide) rfl (Nat.le_of_ble_eq_true rfl) ?_
  show V l E RX9 cX9_capitals 4 (some .int) (rm_X9_capitals) 0 0 (Zm E) rvI _ m0 0 [(0, .ref (eAd E 111))] []
  unfold f_X9_capitals
  refine v_iconst (v := 0) dX9_capitals_0 rfl ?_
  refine v_istore_n (lv' := [(1, .int 0), (0, .ref (eAd E 111))]) dX9_capitals_1 rfl (Nat.le_of_ble_eq_true rfl) rfl ?_
  refine v_sub [1, 0] rfl ?_
  exact w_X9_capitals_2 l E N N m0 0

def rm_X9_node : Room := { frames := 3, cells := 0, slots := 0, locals := 65 }
def f_X9_node_45 (N : Nat) (m0 : Mem) : Option (Mem × Int32) := bm (f_X9_refuses m0 (-10002)) (fun m1 r1 => some (m1, r1))
theorem w_X9_node_45 (l : Launch) (E : EnvT) (N : Nat) (m0 : Mem) : V l E RX9 cX9_node 8 (some .int) (rm_X9_node) 0 0 (Zm E) rvI (f_X9_node_45 N m0) m0 45 [(0, .ref (eAd E 111))] [] := by
  unfold f_X9_node_45
  refine v_aload_n dX9_node_45 rfl 0 rfl ?_
  refine v_sipush (v := (-10002)) dX9_node_46 rfl ?_
  refine v_callVi (q := 111) (ci := 9) (C := RX9) (T := TX9) (NN := 24) (As := [.int (-10002)]) (rest := []) (c_X9_refuses l E m0 (-10002)) kv_X9_refuses kc111 (by decide) rfl q900 ⟨rfl, rfl⟩ ⟨Nat.le_of_ble_eq_true rfl, Nat.le_of_ble_eq_true rfl⟩ ⟨Nat.zero_le _, Nat.zero_le _⟩ rfl rfl (Nat.le_of_ble_eq_true rfl) dX9_node_49 (fun m1 r1 => ?_)
  exact v_iret dX9_node_52
def f_X9_node_215b (N : Nat) (rec_215 : Mem → Int32 → Int32 → Option (Mem × Int32)) (m0 : Mem) (x6 : Int32) (x7 : Int32) : Option (Mem × Int32) := if (m0 111 6) ≤ x7 then (bm (f_X9_push N m0) (fun m1 _ => some (m1, x6))) else (gd (inR x7 100) (bm (f_X9_small m0 (m0 116 (ix x7))) (fun m2 r2 => bm (f_X9_put m2 x6 (12 + x7) r2) (fun m3 _ => (rec_215 m3 x6 (x7 + 1))))))
def f_X9_node_215 (N : Nat) : Nat → Mem → Int32 → Int32 → Option (Mem × Int32)
  | 0 => fun _ _ _ => none
  | n + 1 => f_X9_node_215b N (f_X9_node_215 N n)
theorem w_X9_node_215b (l : Launch) (E : EnvT) (N : Nat) (rec_215 : Mem → Int32 → Int32 → Option (Mem × Int32)) (hrec_215 : ∀ (m0 : Mem) (x6 : Int32) (x7 : Int32), V l E RX9 cX9_node 8 (some .int) (rm_X9_node) 0 0 (Zm E) rvI (rec_215 m0 x6 x7) m0 215 [(0, .ref (eAd E 111)), (6, .int x6), (7, .int x7)] []) (m0 : Mem) (x6 : Int32) (x7 : Int32) : V l E RX9 cX9_node 8 (some .int) (rm_X9_node) 0 0 (Zm E) rvI (f_X9_node_215b N rec_215 m0 x6 x7) m0 215 [(0, .ref (eAd E 111)), (6, .int x6), (7, .int x7)] [] := by
  unfold f_X9_node_215b
  refine v_iload dX9_node_215 2 rfl ?_
  refine v_aload_n dX9_node_217 rfl 0 rfl ?_
  refine gf_X9_typed kc111 q828 dX9_node_218 ?_
  refine v_icmp_ge (tgt := 251) dX9_node_221 (by decide) ?_ ?_
  · refine v_aload_n dX9_node_251 rfl 0 rfl ?_
    refine v_callVv (q := 111) (ci := 9) (C := RX9) (T := TX9) (NN := 24) (As := []) (rest := []) (c_X9_push l E N m0) kv_X9_push kc111 (by decide) rfl q940 ⟨rfl, rfl⟩ ⟨Nat.le_of_ble_eq_true rfl, Nat.le_of_ble_eq_true rfl⟩ ⟨Nat.zero_le _, Nat.zero_le _⟩ rfl rfl (Nat.le_of_ble_eq_true rfl) dX9_node_252 (fun m1 _ => ?_)
    refine v_iload dX9_node_255 1 rfl ?_
    exact v_iret dX9_node_257
  · refine v_aload_n dX9_node_224 rfl 0 rfl ?_
    refine v_iload dX9_node_225 1 rfl ?_
    refine v_bipush (v := 12) dX9_node_227 rfl ?_
    refine v_iload dX9_node_229 2 rfl ?_
    refine v_iadd dX9_node_231 ?_
    refine v_aload_n dX9_node_232 rfl 0 rfl ?_
    refine gf_X9_text kc111 q827 dX9_node_233 ?_
    refine v_iload dX9_node_236 2 rfl ?_
    refine v_gd (fun g238 => ?_)
    refine v_iald kc116 rfl g238 dX9_node_238 ?_
    refine v_callSi (As := [.int (m0 116 (ix x7))]) (rest := [.int (12 + x7), .int x6, .ref (eAd E 111)]) (c_X9_small l E m0 (m0 116 (ix x7))) ks_X9_small q937 ⟨rfl, rfl⟩ ⟨Nat.le_of_ble_eq_true rfl, Nat.le_of_ble_eq_true rfl⟩ ⟨Nat.zero_le _, Nat.zero_le _⟩ rfl rfl (Nat.le_of_ble_eq_true rfl) dX9_node_239 (fun m2 r2 => ?_)
    refine v_callVv (q := 111) (ci := 9) (C := RX9) (T := TX9) (NN := 24) (As := [.int x6, .int (12 + x7), .int r2]) (rest := []) (c_X9_put l E m2 x6 (12 + x7) r2) kv_X9_put kc111 (by decide) rfl q933 ⟨rfl, rfl⟩ ⟨Nat.le_of_ble_eq_true rfl, Nat.le_of_ble_eq_true rfl⟩ ⟨Nat.zero_le _, Nat.zero_le _⟩ rfl rfl (Nat.le_of_ble_eq_true rfl) dX9_node_242 (fun m3 _ => ?_)
    refine v_iinc (v := (x7 + 1)) (lv' := [(7, .int (x7 + 1)), (0, .ref (eAd E 111)), (6, .int x6)]) dX9_node_245 2 rfl rfl (Nat.le_of_ble_eq_true rfl) rfl ?_
    refine v_goto (tgt := 215) dX9_node_248 (by decide) ?_
    refine v_sub [1, 2, 0] rfl ?_
    exact hrec_215 m3 x6 (x7 + 1)
theorem w_X9_node_215 (l : Launch) (E : EnvT) (N : Nat) : ∀ (n : Nat) (m0 : Mem) (x6 : Int32) (x7 : Int32), V l E RX9 cX9_node 8 (some .int) (rm_X9_node) 0 0 (Zm E) rvI (f_X9_node_215 N n m0 x6 x7) m0 215 [(0, .ref (eAd E 111)), (6, .int x6), (7, .int x7)] [] := by
  intro n
  induction n with
  | zero => intros; exact v_none
  | succ n ih => exact w_X9_node_215b l E N _ ih
def f_X9_node_187 (N : Nat) (m0 : Mem) (x5 : Int32) (x6 : Int32) (s1 : Int32) (s2 : Int32) (s3 : Int32) : Option (Mem × Int32) := bm (f_X9_put m0 s1 s2 s3) (fun m1 _ => bm (f_X9_put m1 x6 10 x5) (fun m2 _ => bm (f_X9_put m2 x6 11 (m2 111 6)) (fun m3 _ => (f_X9_node_215 N N m3 x6 0))))
theorem w_X9_node_187 (l : Launch) (E : EnvT) (N : Nat) (m0 : Mem) (x5 : Int32) (x6 : Int32) (s1 : Int32) (s2 : Int32) (s3 : Int32) : V l E RX9 cX9_node 8 (some .int) (rm_X9_node) 0 0 (Zm E) rvI (f_X9_node_187 N m0 x5 x6 s1 s2 s3) m0 187 [(0, .ref (eAd E 111)), (5, .int x5), (6, .int x6)] [.int s3, .int s2, .int s1, .ref (eAd E 111)] := by
  unfold f_X9_node_187
  refine v_callVv (q := 111) (ci := 9) (C := RX9) (T := TX9) (NN := 24) (As := [.int s1, .int s2, .int s3]) (rest := []) (c_X9_put l E m0 s1 s2 s3) kv_X9_put kc111 (by decide) rfl q933 ⟨rfl, rfl⟩ ⟨Nat.le_of_ble_eq_true rfl, Nat.le_of_ble_eq_true rfl⟩ ⟨Nat.zero_le _, Nat.zero_le _⟩ rfl rfl (Nat.le_of_ble_eq_true rfl) dX9_node_187 (fun m1 _ => ?_)
  refine v_aload_n dX9_node_190 rfl 0 rfl ?_
  refine v_iload dX9_node_191 2 rfl ?_
  refine v_bipush (v := 10) dX9_node_193 rfl ?_
  refine v_iload dX9_node_195 1 rfl ?_
  refine v_callVv (q := 111) (ci := 9) (C := RX9) (T := TX9) (NN := 24) (As := [.int x6, .int 10, .int x5]) (rest := []) (c_X9_put l E m1 x6 10 x5) kv_X9_put kc111 (by decide) rfl q933 ⟨rfl, rfl⟩ ⟨Nat.le_of_ble_eq_true rfl, Nat.le_of_ble_eq_true rfl⟩ ⟨Nat.zero_le _, Nat.zero_le _⟩ rfl rfl (Nat.le_of_ble_eq_true rfl) dX9_node_197 (fun m2 _ => ?_)
  refine v_aload_n dX9_node_200 rfl 0 rfl ?_
  refine v_iload dX9_node_201 2 rfl ?_
  refine v_bipush (v := 11) dX9_node_203 rfl ?_
  refine v_aload_n dX9_node_205 rfl 0 rfl ?_
  refine gf_X9_typed kc111 q828 dX9_node_206 ?_
  refine v_callVv (q := 111) (ci := 9) (C := RX9) (T := TX9) (NN := 24) (As := [.int x6, .int 11, .int (m2 111 6)]) (rest := []) (c_X9_put l E m2 x6 11 (m2 111 6)) kv_X9_put kc111 (by decide) rfl q933 ⟨rfl, rfl⟩ ⟨Nat.le_of_ble_eq_true rfl, Nat.le_of_ble_eq_true rfl⟩ ⟨Nat.zero_le _, Nat.zero_le _⟩ rfl rfl (Nat.le_of_ble_eq_true rfl) dX9_node_209 (fun m3 _ => ?_)
  refine v_iconst (v := 0) dX9_node_212 rfl ?_
  refine v_istore (lv' := [(7, .int 0), (0, .ref (eAd E 111)), (5, .int x5), (6, .int x6)]) dX9_node_213 (Nat.le_of_ble_eq_true rfl) rfl ?_
  refine v_sub [1, 3, 0] rfl ?_
  exact w_X9_node_215 l E N N m3 x6 0
def f_X9_node_116b (N : Nat) (rec_116 : Mem → Int32 → Int32 → Int32 → Int32 → Int32 → Int32 → Int32 → Option (Mem × Int32)) (m0 : Mem) (x1 : Int32) (x2 : Int32) (x3 : Int32) (x4 : Int32) (x5 : Int32) (x6 : Int32) (x7 : Int32) : Option (Mem × Int32) := if 20 ≤ x7 then (bm (f_X9_put m0 x6 0 x1) (fun m1 _ => bm (f_X9_put m1 x6 1 x2) (fun m2 _ => bm (f_X9_put m2 x6 2 x3) (fun m3 _ => bm (f_X9_put m3 x6 3 x4) (fun m4 _ => if x2 = 1 then (f_X9_node_187 N m4 x5 x6 x6 5 9999) else (f_X9_node_187 N m4 x5 x6 x6 5 0)))))) else (bm (f_X9_put m0 x6 x7 0) (fun m5 _ => (rec_116 m5 x1 x2 x3 x4 x5 x6 (x7 + 1))))
def f_X9_node_116 (N : Nat) : Nat → Mem → Int32 → Int32 → Int32 → Int32 → Int32 → Int32 → Int32 → Option (Mem × Int32)
  | 0 => fun _ _ _ _ _ _ _ _ => none
  | n + 1 => f_X9_node_116b N (f_X9_node_116 N n)
theorem w_X9_node_116b (l : Launch) (E : EnvT) (N : Nat) (rec_116 : Mem → Int32 → Int32 → Int32 → Int32 → Int32 → Int32 → Int32 → Option (Mem × Int32)) (hrec_116 : ∀ (m0 : Mem) (x1 : Int32) (x2 : Int32) (x3 : Int32) (x4 : Int32) (x5 : Int32) (x6 : Int32) (x7 : Int32), V l E RX9 cX9_node 8 (some .int) (rm_X9_node) 0 0 (Zm E) rvI (rec_116 m0 x1 x2 x3 x4 x5 x6 x7) m0 116 [(0, .ref (eAd E 111)), (1, .int x1), (2, .int x2), (3, .int x3), (4, .int x4), (5, .int x5), (6, .int x6), (7, .int x7)] []) (m0 : Mem) (x1 : Int32) (x2 : Int32) (x3 : Int32) (x4 : Int32) (x5 : Int32) (x6 : Int32) (x7 : Int32) : V l E RX9 cX9_node 8 (some .int) (rm_X9_node) 0 0 (Zm E) rvI (f_X9_node_116b N rec_116 m0 x1 x2 x3 x4 x5 x6 x7) m0 116 [(0, .ref (eAd E 111)), (1, .int x1), (2, .int x2), (3, .int x3), (4, .int x4), (5, .int x5), (6, .int x6), (7, .int x7)] [] := by
  unfold f_X9_node_116b
  refine v_iload dX9_node_116 7 rfl ?_
  refine v_bipush (v := 20) dX9_node_118 rfl ?_
  refine v_icmp_ge (tgt := 138) dX9_node_120 (by decide) ?_ ?_
  · refine v_aload_n dX9_node_138 rfl 0 rfl ?_
    refine v_iload dX9_node_139 6 rfl ?_
    refine v_iconst (v := 0) dX9_node_141 rfl ?_
    refine v_iload_n dX9_node_142 rfl 1 rfl ?_
    refine v_callVv (q := 111) (ci := 9) (C := RX9) (T := TX9) (NN := 24) (As := [.int x6, .int 0, .int x1]) (rest := []) (c_X9_put l E m0 x6 0 x1) kv_X9_put kc111 (by decide) rfl q933 ⟨rfl, rfl⟩ ⟨Nat.le_of_ble_eq_true rfl, Nat.le_of_ble_eq_true rfl⟩ ⟨Nat.zero_le _, Nat.zero_le _⟩ rfl rfl (Nat.le_of_ble_eq_true rfl) dX9_node_143 (fun m1 _ => ?_)
    refine v_aload_n dX9_node_146 rfl 0 rfl ?_
    refine v_iload dX9_node_147 6 rfl ?_
    refine v_iconst (v := 1) dX9_node_149 rfl ?_
    refine v_iload_n dX9_node_150 rfl 2 rfl ?_
    refine v_callVv (q := 111) (ci := 9) (C := RX9) (T := TX9) (NN := 24) (As := [.int x6, .int 1, .int x2]) (rest := []) (c_X9_put l E m1 x6 1 x2) kv_X9_put kc111 (by decide) rfl q933 ⟨rfl, rfl⟩ ⟨Nat.le_of_ble_eq_true rfl, Nat.le_of_ble_eq_true rfl⟩ ⟨Nat.zero_le _, Nat.zero_le _⟩ rfl rfl (Nat.le_of_ble_eq_true rfl) dX9_node_151 (fun m2 _ => ?_)
    refine v_aload_n dX9_node_154 rfl 0 rfl ?_
    refine v_iload dX9_node_155 6 rfl ?_
    refine v_iconst (v := 2) dX9_node_157 rfl ?_
    refine v_iload_n dX9_node_158 rfl 3 rfl ?_
    refine v_callVv (q := 111) (ci := 9) (C := RX9) (T := TX9) (NN := 24) (As := [.int x6, .int 2, .int x3]) (rest := []) (c_X9_put l E m2 x6 2 x3) kv_X9_put kc111 (by decide) rfl q933 ⟨rfl, rfl⟩ ⟨Nat.le_of_ble_eq_true rfl, Nat.le_of_ble_eq_true rfl⟩ ⟨Nat.zero_le _, Nat.zero_le _⟩ rfl rfl (Nat.le_of_ble_eq_true rfl) dX9_node_159 (fun m3 _ => ?_)
    refine v_aload_n dX9_node_162 rfl 0 rfl ?_
    refine v_iload dX9_node_163 6 rfl ?_
    refine v_iconst (v := 3) dX9_node_165 rfl ?_
    refine v_iload dX9_node_166 4 rfl ?_
    refine v_callVv (q := 111) (ci := 9) (C := RX9) (T := TX9) (NN := 24) (As := [.int x6, .int 3, .int x4]) (rest := []) (c_X9_put l E m3 x6 3 x4) kv_X9_put kc111 (by decide) rfl q933 ⟨rfl, rfl⟩ ⟨Nat.le_of_ble_eq_true rfl, Nat.le_of_ble_eq_true rfl⟩ ⟨Nat.zero_le _, Nat.zero_le _⟩ rfl rfl (Nat.le_of_ble_eq_true rfl) dX9_node_168 (fun m4 _ => ?_)
    refine v_aload_n dX9_node_171 rfl 0 rfl ?_
    refine v_iload dX9_node_172 6 rfl ?_
    refine v_iconst (v := 5) dX9_node_174 rfl ?_
    refine v_iload_n dX9_node_175 rfl 2 rfl ?_
    refine v_iconst (v := 1) dX9_node_176 rfl ?_
    refine v_icmp_ne (tgt := 186) dX9_node_177 (by decide) ?_ ?_
    · refine v_iconst (v := 0) dX9_node_186 rfl ?_
      refine v_sub [0, 5, 6] rfl ?_
      exact w_X9_node_187 l E N m4 x5 x6 x6 5 0
    · refine v_sipush (v := 9999) dX9_node_180 rfl ?_
      refine v_goto (tgt := 187) dX9_node_183 (by decide) ?_
      refine v_sub [0, 5, 6] rfl ?_
      exact w_X9_node_187 l E N m4 x5 x6 x6 5 9999
  · refine v_aload_n dX9_node_123 rfl 0 rfl ?_
    refine v_iload dX9_node_124 6 rfl ?_
    refine v_iload dX9_node_126 7 rfl ?_
    refine v_iconst (v := 0) dX9_node_128 rfl ?_
    refine v_callVv (q := 111) (ci := 9) (C := RX9) (T := TX9) (NN := 24) (As := [.int x6, .int x7, .int 0]) (rest := []) (c_X9_put l E m0 x6 x7 0) kv_X9_put kc111 (by decide) rfl q933 ⟨rfl, rfl⟩ ⟨Nat.le_of_ble_eq_true rfl, Nat.le_of_ble_eq_true rfl⟩ ⟨Nat.zero_le _, Nat.zero_le _⟩ rfl rfl (Nat.le_of_ble_eq_true rfl) dX9_node_129 (fun m5 _ => ?_)
    refine v_iinc (v := (x7 + 1)) (lv' := [(7, .int (x7 + 1)), (0, .ref (eAd E 111)), (1, .int x1), (2, .int x2), (3, .int x3), (4, .int x4), (5, .int x5), (6, .int x6)]) dX9_node_132 7 rfl rfl (Nat.le_of_ble_eq_true rfl) rfl ?_
    refine v_goto (tgt := 116) dX9_node_135 (by decide) ?_
    refine v_sub [1, 2, 3, 4, 5, 6, 7, 0] rfl ?_
    exact hrec_116 m5 x1 x2 x3 x4 x5 x6 (x7 + 1)
theorem w_X9_node_116 (l : Launch) (E : EnvT) (N : Nat) : ∀ (n : Nat) (m0 : Mem) (x1 : Int32) (x2 : Int32) (x3 : Int32) (x4 : Int32) (x5 : Int32) (x6 : Int32) (x7 : Int32), V l E RX9 cX9_node 8 (some .int) (rm_X9_node) 0 0 (Zm E) rvI (f_X9_node_116 N n m0 x1 x2 x3 x4 x5 x6 x7) m0 116 [(0, .ref (eAd E 111)), (1, .int x1), (2, .int x2), (3, .int x3), (4, .int x4), (5, .int x5), (6, .int x6), (7, .int x7)] [] := by
  intro n
  induction n with
  | zero => intros; exact v_none
  | succ n ih => exact w_X9_node_116b l E N _ ih
def f_X9_node (N : Nat) (m0 : Mem) (x1 : Int32) (x2 : Int32) (x3 : Int32) (x4 : Int32) : Option (Mem × Int32) := bm (f_X9_isNode m0 x1) (fun m1 r1 => if r1 = 0 then (f_X9_node_45 N m1) else (bm (f_X9_ofNode m1 x1 1) (fun m2 r2 => if r2 = 0 then (bm (f_X9_in m2 x2 0 3) (fun m3 r3 => if r3 = 0 then (f_X9_node_45 N m3) else (bm (f_X9_in m3 x3 0 3) (fun m4 r4 => if r4 = 0 then (f_X9_node_45 N m4) else (bm (f_X9_in m4 x4 0 1) (fun m5 r5 => if r5 = 0 then (f_X9_node_45 N m5) else (bm (f_X9_capitals N m5) (fun m6 r6 => if r6 = 0 then (bm (f_X9_refuses m6 (-10003)) (fun m10 r10 => some (m10, r10))) else (gd (inR 0 347) (if (m6 112 (ix 0)) = 16 then (bm (f_X9_refuses m6 (-10004)) (fun m9 r9 => some (m9, r9))) else (bm (f_X9_hold N m6) (fun m7 _ => gd (inR 0 347) (gd (inR 0 347) (gd (inR 0 347) (lm (up m7 112 (ix 0) ((m7 112 (ix 0)) + 1)) (fun m8 => (f_X9_node_116 N N m8 x1 x2 x3 x4 r6 (m7 112 (ix 0)) 0))))))))))))))))) else (f_X9_node_45 N m2))))
theorem c_X9_node (l : Launch) (E : EnvT) (N : Nat) (m0 : Mem) (x1 : Int32) (x2 : Int32) (x3 : Int32) (x4 : Int32) : CT l E yX9_node cX9_node 8 (some .int) (rm_X9_node) rvI (f_X9_node N m0 x1 x2 x3 x4) [.ref (eAd E 111), .int x1, .int x2, .int x3, .int x4] m0 := by
  refine CT.ofV (own := RX9) (by decide) rfl (Nat.le_of_ble_eq_true rfl) ?_
  show V l E RX9 cX9_node 8 (some .int) (rm_X9_node) 0 0 (Zm E) rvI _ m0 0 [(0, .ref (eAd E 111)), (1, .int x1), (2, .int x2), (3, .int x3), (4, .int x4)] []
  unfold f_X9_node
  refine v_aload_n dX9_node_0 rfl 0 rfl ?_
  refine v_iload_n dX9_node_1 rfl 1 rfl ?_
  refine v_callVi (q := 111) (ci := 9) (C := RX9) (T := TX9) (NN := 24) (As := [.int x1]) (rest := []) (c_X9_isNode l E m0 x1) kv_X9_isNode kc111 (by decide) rfl q908 ⟨rfl, rfl⟩ ⟨Nat.le_of_ble_eq_true rfl, Nat.le_of_ble_eq_true rfl⟩ ⟨Nat.zero_le _, Nat.zero_le _⟩ rfl rfl (Nat.le_of_ble_eq_true rfl) dX9_node_2 (fun m1 r1 => ?_)
  refine v_if_eq (tgt := 45) dX9_node_5 (by decide) ?_ ?_
  · refine v_sub [0] rfl ?_
    exact w_X9_node_45 l E N m1
  · refine v_aload_n dX9_node_8 rfl 0 rfl ?_
    refine v_iload_n dX9_node_9 rfl 1 rfl ?_
    refine v_iconst (v := 1) dX9_node_10 rfl ?_
    refine v_callVi (q := 111) (ci := 9) (C := RX9) (T := TX9) (NN := 24) (As := [.int x1, .int 1]) (rest := []) (c_X9_ofNode l E m1 x1 1) kv_X9_ofNode kc111 (by decide) rfl q915 ⟨rfl, rfl⟩ ⟨Nat.le_of_ble_eq_true rfl, Nat.le_of_ble_eq_true rfl⟩ ⟨Nat.zero_le _, Nat.zero_le _⟩ rfl rfl (Nat.le_of_ble_eq_true rfl) dX9_node_11 (fun m2 r2 => ?_)
    refine v_if_ne (tgt := 45) dX9_node_14 (by decide) ?_ ?_
    · refine v_sub [0] rfl ?_
      exact w_X9_node_45 l E N m2
    · refine v_iload_n dX9_node_17 rfl 2 rfl ?_
      refine v_iconst (v := 0) dX9_node_18 rfl ?_
      refine v_iconst (v := 3) dX9_node_19 rfl ?_
      refine v_callSi (As := [.int x2, .int 0, .int 3]) (rest := []) (c_X9_in l E m2 x2 0 3) ks_X9_in q912 ⟨rfl, rfl⟩ ⟨Nat.le_of_ble_eq_true rfl, Nat.le_of_ble_eq_true rfl⟩ ⟨Nat.zero_le _, Nat.zero_le _⟩ rfl rfl (Nat.le_of_ble_eq_true rfl) dX9_node_20 (fun m3 r3 => ?_)
      refine v_if_eq (tgt := 45) dX9_node_23 (by decide) ?_ ?_
      · refine v_sub [0] rfl ?_
        exact w_X9_node_45 l E N m3
      · refine v_iload_n dX9_node_26 rfl 3 rfl ?_
        refine v_iconst (v := 0) dX9_node_27 rfl ?_
        refine v_iconst (v := 3) dX9_node_28 rfl ?_
        refine v_callSi (As := [.int x3, .int 0, .int 3]) (rest := []) (c_X9_in l E m3 x3 0 3) ks_X9_in q912 ⟨rfl, rfl⟩ ⟨Nat.le_of_ble_eq_true rfl, Nat.le_of_ble_eq_true rfl⟩ ⟨Nat.zero_le _, Nat.zero_le _⟩ rfl rfl (Nat.le_of_ble_eq_true rfl) dX9_node_29 (fun m4 r4 => ?_)
        refine v_if_eq (tgt := 45) dX9_node_32 (by decide) ?_ ?_
        · refine v_sub [0] rfl ?_
          exact w_X9_node_45 l E N m4
        · refine v_iload dX9_node_35 4 rfl ?_
          refine v_iconst (v := 0) dX9_node_37 rfl ?_
          refine v_iconst (v := 1) dX9_node_38 rfl ?_
          refine v_callSi (As := [.int x4, .int 0, .int 1]) (rest := []) (c_X9_in l E m4 x4 0 1) ks_X9_in q912 ⟨rfl, rfl⟩ ⟨Nat.le_of_ble_eq_true rfl, Nat.le_of_ble_eq_true rfl⟩ ⟨Nat.zero_le _, Nat.zero_le _⟩ rfl rfl (Nat.le_of_ble_eq_true rfl) dX9_node_39 (fun m5 r5 => ?_)
          refine v_if_ne (tgt := 53) dX9_node_42 (by decide) ?_ ?_
          · refine v_aload_n dX9_node_53 rfl 0 rfl ?_
            refine v_callVi (q := 111) (ci := 9) (C := RX9) (T := TX9) (NN := 24) (As := []) (rest := []) (c_X9_capitals l E N m5) kv_X9_capitals kc111 (by decide) rfl q919 ⟨rfl, rfl⟩ ⟨Nat.le_of_ble_eq_true rfl, Nat.le_of_ble_eq_true rfl⟩ ⟨Nat.zero_le _, Nat.zero_le _⟩ rfl rfl (Nat.le_of_ble_eq_true rfl) dX9_node_54 (fun m6 r6 => ?_)
            refine v_istore (lv' := [(5, .int r6), (0, .ref (eAd E 111)), (1, .int x1), (2, .int x2), (3, .int x3), (4, .int x4)]) dX9_node_57 (Nat.le_of_ble_eq_true rfl) rfl ?_
            refine v_iload dX9_node_59 0 rfl ?_
            refine v_if_ne (tgt := 72) dX9_node_61 (by decide) ?_ ?_
            · refine v_aload_n dX9_node_72 rfl 1 rfl ?_
              refine gf_X9_now kc111 q822 dX9_node_73 ?_
              refine v_iconst (v := 0) dX9_node_76 rfl ?_
              refine v_gd (fun g77 => ?_)
              refine v_iald kc112 rfl g77 dX9_node_77 ?_
              refine v_bipush (v := 16) dX9_node_78 rfl ?_
              refine v_icmp_ne (tgt := 91) dX9_node_80 (by decide) ?_ ?_
              · refine v_aload_n dX9_node_91 rfl 1 rfl ?_
                refine v_callVv (q := 111) (ci := 9) (C := RX9) (T := TX9) (NN := 24) (As := []) (rest := []) (c_X9_hold l E N m6) kv_X9_hold kc111 (by decide) rfl q929 ⟨rfl, rfl⟩ ⟨Nat.le_of_ble_eq_true rfl, Nat.le_of_ble_eq_true rfl⟩ ⟨Nat.zero_le _, Nat.zero_le _⟩ rfl rfl (Nat.le_of_ble_eq_true rfl) dX9_node_92 (fun m7 _ => ?_)
                refine v_aload_n dX9_node_95 rfl 1 rfl ?_
                refine gf_X9_now kc111 q822 dX9_node_96 ?_
                refine v_iconst (v := 0) dX9_node_99 rfl ?_
                refine v_gd (fun g100 => ?_)
                refine v_iald kc112 rfl g100 dX9_node_100 ?_
                refine v_istore (lv' := [(6, .int (m7 112 (ix 0))), (5, .int r6), (0, .ref (eAd E 111)), (1, .int x1), (2, .int x2), (3, .int x3), (4, .int x4)]) dX9_node_101 (Nat.le_of_ble_eq_true rfl) rfl ?_
                refine v_aload_n dX9_node_103 rfl 2 rfl ?_
                refine gf_X9_now kc111 q822 dX9_node_104 ?_
                refine v_iconst (v := 0) dX9_node_107 rfl ?_
                refine v_dup2 dX9_node_108 rfl rfl ?_
                refine v_gd (fun g109 => ?_)
                refine v_iald kc112 rfl g109 dX9_node_109 ?_
                refine v_iconst (v := 1) dX9_node_110 rfl ?_
                refine v_iadd dX9_node_111 ?_
                refine v_gd (fun g112 => ?_)
                refine v_iast kc112 rfl g112 dX9_node_112 (fun m8 => ?_)
                refine v_iconst (v := 0) dX9_node_113 rfl ?_
                refine v_istore (lv' := [(7, .int 0), (6, .int (m7 112 (ix 0))), (5, .int r6), (0, .ref (eAd E 111)), (1, .int x1), (2, .int x2), (3, .int x3), (4, .int x4)]) dX9_node_114 (Nat.le_of_ble_eq_true rfl) rfl ?_
                refine v_sub [3, 4, 5, 6, 7, 2, 1, 0] rfl ?_
                exact w_X9_node_116 l E N N m8 x1 x2 x3 x4 r6 (m7 112 (ix 0)) 0
              · refine v_aload_n dX9_node_83 rfl 1 rfl ?_
                refine v_sipush (v := (-10004)) dX9_node_84 rfl ?_
                refine v_callVi (q := 111) (ci := 9) (C := RX9) (T := TX9) (NN := 24) (As := [.int (-10004)]) (rest := []) (c_X9_refuses l E m6 (-10004)) kv_X9_refuses kc111 (by decide) rfl q900 ⟨rfl, rfl⟩ ⟨Nat.le_of_ble_eq_true rfl, Nat.le_of_ble_eq_true rfl⟩ ⟨Nat.zero_le _, Nat.zero_le _⟩ rfl rfl (Nat.le_of_ble_eq_true rfl) dX9_node_87 (fun m9 r9 => ?_)
                exact v_iret dX9_node_90
            · refine v_aload_n dX9_node_64 rfl 1 rfl ?_
              refine v_sipush (v := (-10003)) dX9_node_65 rfl ?_
              refine v_callVi (q := 111) (ci := 9) (C := RX9) (T := TX9) (NN := 24) (As := [.int (-10003)]) (rest := []) (c_X9_refuses l E m6 (-10003)) kv_X9_refuses kc111 (by decide) rfl q900 ⟨rfl, rfl⟩ ⟨Nat.le_of_ble_eq_true rfl, Nat.le_of_ble_eq_true rfl⟩ ⟨Nat.zero_le _, Nat.zero_le _⟩ rfl rfl (Nat.le_of_ble_eq_true rfl) dX9_node_68 (fun m10 r10 => ?_)
              exact v_iret dX9_node_71
          · refine v_sub [0] rfl ?_
            exact w_X9_node_45 l E N m5

def rm_X9_setAll : Room := { frames := 1, cells := 0, slots := 0, locals := 23 }
def f_X9_setAll_2b (N : Nat) (rec_2 : Mem → Int32 → Int32 → Option (Mem × Unit)) (m0 : Mem) (x1 : Int32) (x2 : Int32) : Option (Mem × Unit) := if 3 ≤ x2 then (some (m0, ())) else (bm (f_X9_ofNode m0 x1 4) (fun m1 r1 => bm (f_X9_put m1 x1 (6 + x2) r1) (fun m2 _ => (rec_2 m2 x1 (x2 + 1)))))
def f_X9_setAll_2 (N : Nat) : Nat → Mem → Int32 → Int32 → Option (Mem × Unit)
  | 0 => fun _ _ _ => none
  | n + 1 => f_X9_setAll_2b N (f_X9_setAll_2 N n)
theorem w_X9_setAll_2b (l : Launch) (E : EnvT) (N : Nat) (rec_2 : Mem → Int32 → Int32 → Option (Mem × Unit)) (hrec_2 : ∀ (m0 : Mem) (x1 : Int32) (x2 : Int32), V l E RX9 cX9_setAll 3 none (rm_X9_setAll) 0 0 (Zm E) rvV (rec_2 m0 x1 x2) m0 2 [(0, .ref (eAd E 111)), (1, .int x1), (2, .int x2)] []) (m0 : Mem) (x1 : Int32) (x2 : Int32) : V l E RX9 cX9_setAll 3 none (rm_X9_setAll) 0 0 (Zm E) rvV (f_X9_setAll_2b N rec_2 m0 x1 x2) m0 2 [(0, .ref (eAd E 111)), (1, .int x1), (2, .int x2)] [] := by
  unfold f_X9_setAll_2b
  refine v_iload_n dX9_setAll_2 rfl 2 rfl ?_
  refine v_iconst (v := 3) dX9_setAll_3 rfl ?_
  refine v_icmp_ge (tgt := 28) dX9_setAll_4 (by decide) ?_ ?_
  · exact v_vret dX9_setAll_28
  · refine v_aload_n dX9_setAll_7 rfl 0 rfl ?_
    refine v_iload_n dX9_setAll_8 rfl 1 rfl ?_
    refine v_bipush (v := 6) dX9_setAll_9 rfl ?_
    refine v_iload_n dX9_setAll_11 rfl 2 rfl ?_
    refine v_iadd dX9_setAll_12 ?_
    refine v_aload_n dX9_setAll_13 rfl 0 rfl ?_
    refine v_iload_n dX9_setAll_14 rfl 1 rfl ?_
    refine v_iconst (v := 4) dX9_setAll_15 rfl ?_
    refine v_callVi (q := 111) (ci := 9) (C := RX9) (T := TX9) (NN := 24) (As := [.int x1, .int 4]) (rest := [.int (6 + x2), .int x1, .ref (eAd E 111)]) (c_X9_ofNode l E m0 x1 4) kv_X9_ofNode kc111 (by decide) rfl q915 ⟨rfl, rfl⟩ ⟨Nat.le_of_ble_eq_true rfl, Nat.le_of_ble_eq_true rfl⟩ ⟨Nat.zero_le _, Nat.zero_le _⟩ rfl rfl (Nat.le_of_ble_eq_true rfl) dX9_setAll_16 (fun m1 r1 => ?_)
    refine v_callVv (q := 111) (ci := 9) (C := RX9) (T := TX9) (NN := 24) (As := [.int x1, .int (6 + x2), .int r1]) (rest := []) (c_X9_put l E m1 x1 (6 + x2) r1) kv_X9_put kc111 (by decide) rfl q933 ⟨rfl, rfl⟩ ⟨Nat.le_of_ble_eq_true rfl, Nat.le_of_ble_eq_true rfl⟩ ⟨Nat.zero_le _, Nat.zero_le _⟩ rfl rfl (Nat.le_of_ble_eq_true rfl) dX9_setAll_19 (fun m2 _ => ?_)
    refine v_iinc (v := (x2 + 1)) (lv' := [(2, .int (x2 + 1)), (0, .ref (eAd E 111)), (1, .int x1)]) dX9_setAll_22 2 rfl rfl (Nat.le_of_ble_eq_true rfl) rfl ?_
    refine v_goto (tgt := 2) dX9_setAll_25 (by decide) ?_
    refine v_sub [1, 2, 0] rfl ?_
    exact hrec_2 m2 x1 (x2 + 1)
theorem w_X9_setAll_2 (l : Launch) (E : EnvT) (N : Nat) : ∀ (n : Nat) (m0 : Mem) (x1 : Int32) (x2 : Int32), V l E RX9 cX9_setAll 3 none (rm_X9_setAll) 0 0 (Zm E) rvV (f_X9_setAll_2 N n m0 x1 x2) m0 2 [(0, .ref (eAd E 111)), (1, .int x1), (2, .int x2)] [] := by
  intro n
  induction n with
  | zero => intros; exact v_none
  | succ n ih => exact w_X9_setAll_2b l E N _ ih
def f_X9_setAll (N : Nat) (m0 : Mem) (x1 : Int32) : Option (Mem × Unit) := (f_X9_setAll_2 N N m0 x1 0)
theorem c_X9_setAll (l : Launch) (E : EnvT) (N : Nat) (m0 : Mem) (x1 : Int32) : CT l E yX9_setAll cX9_setAll 3 none (rm_X9_setAll) rvV (f_X9_setAll N m0 x1) [.ref (eAd E 111), .int x1] m0 := by
  refine CT.ofV (own := RX9) (by decide) rfl (Nat.le_of_ble_eq_true rfl) ?_
  show V l E RX9 cX9_setAll 3 none (rm_X9_setAll) 0 0 (Zm E) rvV _ m0 0 [(0, .ref (eAd E 111)), (1, .int x1)] []
  unfold f_X9_setAll
  refine v_iconst (v := 0) dX9_setAll_0 rfl ?_
  refine v_istore_n (lv' := [(2, .int 0), (0, .ref (eAd E 111)), (1, .int x1)]) dX9_setAll_1 rfl (Nat.le_of_ble_eq_true rfl) rfl ?_
  refine v_sub [1, 2, 0] rfl ?_
  exact w_X9_setAll_2 l E N N m0 x1 0

def rm_X9_range : Room := { frames := 3, cells := 0, slots := 0, locals := 65 }
def f_X9_range_33 (N : Nat) (m0 : Mem) : Option (Mem × Int32) := bm (f_X9_refuses m0 (-10002)) (fun m1 r1 => some (m1, r1))
theorem w_X9_range_33 (l : Launch) (E : EnvT) (N : Nat) (m0 : Mem) : V l E RX9 cX9_range 5 (some .int) (rm_X9_range) 0 0 (Zm E) rvI (f_X9_range_33 N m0) m0 33 [(0, .ref (eAd E 111))] [] := by
  unfold f_X9_range_33
  refine v_aload_n dX9_range_33 rfl 0 rfl ?_
  refine v_sipush (v := (-10002)) dX9_range_34 rfl ?_
  refine v_callVi (q := 111) (ci := 9) (C := RX9) (T := TX9) (NN := 24) (As := [.int (-10002)]) (rest := []) (c_X9_refuses l E m0 (-10002)) kv_X9_refuses kc111 (by decide) rfl q900 ⟨rfl, rfl⟩ ⟨Nat.le_of_ble_eq_true rfl, Nat.le_of_ble_eq_true rfl⟩ ⟨Nat.zero_le _, Nat.zero_le _⟩ rfl rfl (Nat.le_of_ble_eq_true rfl) dX9_range_37 (fun m1 r1 => ?_)
  exact v_iret dX9_range_40
def f_X9_range (N : Nat) (m0 : Mem) (x1 : Int32) (x2 : Int32) (x3 : Int32) : Option (Mem × Int32) := bm (f_X9_isKind m0 x1 1) (fun m1 r1 => if r1 = 0 then (f_X9_range_33 N m1) else (bm (f_X9_in m1 x2 (-9999) 9999) (fun m2 r2 => if r2 = 0 then (f_X9_range_33 N m2) else (bm (f_X9_in m2 x3 x2 9999) (fun m3 r3 => if r3 = 0 then (f_X9_range_33 N m3) else (bm (f_X9_hold N m3) (fun m4 _ => bm (f_X9_ofNode m4 x1 4) (fun m5 r5 => bm (f_X9_put m5 x1 4 x2) (fun m6 _ => bm (f_X9_put m6 x1 5 x3) (fun m7 _ => bm (f_X9_setAll N m7 x1) (fun m8 _ => bm (f_X9_push N m8) (fun m9 _ => some (m9, r5)))))))))))))
theorem c_X9_range (l : Launch) (E : EnvT) (N : Nat) (m0 : Mem) (x1 : Int32) (x2 : Int32) (x3 : Int32) : CT l E yX9_range cX9_range 5 (some .int) (rm_X9_range) rvI (f_X9_range N m0 x1 x2 x3) [.ref (eAd E 111), .int x1, .int x2, .int x3] m0 := by
  refine CT.ofV (own := RX9) (by decide) rfl (Nat.le_of_ble_eq_true rfl) ?_
  show V l E RX9 cX9_range 5 (some .int) (rm_X9_range) 0 0 (Zm E) rvI _ m0 0 [(0, .ref (eAd E 111)), (1, .int x1), (2, .int x2), (3, .int x3)] []
  unfold f_X9_range
  refine v_aload_n dX9_range_0 rfl 0 rfl ?_
  refine v_iload_n dX9_range_1 rfl 1 rfl ?_
  refine v_iconst (v := 1) dX9_range_2 rfl ?_
  refine v_callVi (q := 111) (ci := 9) (C := RX9) (T := TX9) (NN := 24) (As := [.int x1, .int 1]) (rest := []) (c_X9_isKind l E m0 x1 1) kv_X9_isKind kc111 (by decide) rfl q948 ⟨rfl, rfl⟩ ⟨Nat.le_of_ble_eq_true rfl, Nat.le_of_ble_eq_true rfl⟩ ⟨Nat.zero_le _, Nat.zero_le _⟩ rfl rfl (Nat.le_of_ble_eq_true rfl) dX9_range_3 (fun m1 r1 => ?_)
  refine v_if_eq (tgt := 33) dX9_range_6 (by decide) ?_ ?_
  · refine v_sub [0] rfl ?_
    exact w_X9_range_33 l E N m1
  · refine v_iload_n dX9_range_9 rfl 2 rfl ?_
    refine v_sipush (v := (-9999)) dX9_range_10 rfl ?_
    refine v_sipush (v := 9999) dX9_range_13 rfl ?_
    refine v_callSi (As := [.int x2, .int (-9999), .int 9999]) (rest := []) (c_X9_in l E m1 x2 (-9999) 9999) ks_X9_in q912 ⟨rfl, rfl⟩ ⟨Nat.le_of_ble_eq_true rfl, Nat.le_of_ble_eq_true rfl⟩ ⟨Nat.zero_le _, Nat.zero_le _⟩ rfl rfl (Nat.le_of_ble_eq_true rfl) dX9_range_16 (fun m2 r2 => ?_)
    refine v_if_eq (tgt := 33) dX9_range_19 (by decide) ?_ ?_
    · refine v_sub [0] rfl ?_
      exact w_X9_range_33 l E N m2
    · refine v_iload_n dX9_range_22 rfl 3 rfl ?_
      refine v_iload_n dX9_range_23 rfl 2 rfl ?_
      refine v_sipush (v := 9999) dX9_range_24 rfl ?_
      refine v_callSi (As := [.int x3, .int x2, .int 9999]) (rest := []) (c_X9_in l E m2 x3 x2 9999) ks_X9_in q912 ⟨rfl, rfl⟩ ⟨Nat.le_of_ble_eq_true rfl, Nat.le_of_ble_eq_true rfl⟩ ⟨Nat.zero_le _, Nat.zero_le _⟩ rfl rfl (Nat.le_of_ble_eq_true rfl) dX9_range_27 (fun m3 r3 => ?_)
      refine v_if_ne (tgt := 41) dX9_range_30 (by decide) ?_ ?_
      · refine v_aload_n dX9_range_41 rfl 0 rfl ?_
        refine v_callVv (q := 111) (ci := 9) (C := RX9) (T := TX9) (NN := 24) (As := []) (rest := []) (c_X9_hold l E N m3) kv_X9_hold kc111 (by decide) rfl q929 ⟨rfl, rfl⟩ ⟨Nat.le_of_ble_eq_true rfl, Nat.le_of_ble_eq_true rfl⟩ ⟨Nat.zero_le _, Nat.zero_le _⟩ rfl rfl (Nat.le_of_ble_eq_true rfl) dX9_range_42 (fun m4 _ => ?_)
        refine v_aload_n dX9_range_45 rfl 0 rfl ?_
        refine v_iload_n dX9_range_46 rfl 1 rfl ?_
        refine v_iconst (v := 4) dX9_range_47 rfl ?_
        refine v_callVi (q := 111) (ci := 9) (C := RX9) (T := TX9) (NN := 24) (As := [.int x1, .int 4]) (rest := []) (c_X9_ofNode l E m4 x1 4) kv_X9_ofNode kc111 (by decide) rfl q915 ⟨rfl, rfl⟩ ⟨Nat.le_of_ble_eq_true rfl, Nat.le_of_ble_eq_true rfl⟩ ⟨Nat.zero_le _, Nat.zero_le _⟩ rfl rfl (Nat.le_of_ble_eq_true rfl) dX9_range_48 (fun m5 r5 => ?_)
        refine v_istore (lv' := [(4, .int r5), (0, .ref (eAd E 111)), (1, .int x1), (2, .int x2), (3, .int x3)]) dX9_range_51 (Nat.le_of_ble_eq_true rfl) rfl ?_
        refine v_aload_n dX9_range_53 rfl 1 rfl ?_
        refine v_iload_n dX9_range_54 rfl 2 rfl ?_
        refine v_iconst (v := 4) dX9_range_55 rfl ?_
        refine v_iload_n dX9_range_56 rfl 3 rfl ?_
        refine v_callVv (q := 111) (ci := 9) (C := RX9) (T := TX9) (NN := 24) (As := [.int x1, .int 4, .int x2]) (rest := []) (c_X9_put l E m5 x1 4 x2) kv_X9_put kc111 (by decide) rfl q933 ⟨rfl, rfl⟩ ⟨Nat.le_of_ble_eq_true rfl, Nat.le_of_ble_eq_true rfl⟩ ⟨Nat.zero_le _, Nat.zero_le _⟩ rfl rfl (Nat.le_of_ble_eq_true rfl) dX9_range_57 (fun m6 _ => ?_)
        refine v_aload_n dX9_range_60 rfl 1 rfl ?_
        refine v_iload_n dX9_range_61 rfl 2 rfl ?_
        refine v_iconst (v := 5) dX9_range_62 rfl ?_
        refine v_iload_n dX9_range_63 rfl 4 rfl ?_
        refine v_callVv (q := 111) (ci := 9) (C := RX9) (T := TX9) (NN := 24) (As := [.int x1, .int 5, .int x3]) (rest := []) (c_X9_put l E m6 x1 5 x3) kv_X9_put kc111 (by decide) rfl q933 ⟨rfl, rfl⟩ ⟨Nat.le_of_ble_eq_true rfl, Nat.le_of_ble_eq_true rfl⟩ ⟨Nat.zero_le _, Nat.zero_le _⟩ rfl rfl (Nat.le_of_ble_eq_true rfl) dX9_range_64 (fun m7 _ => ?_)
        refine v_aload_n dX9_range_67 rfl 1 rfl ?_
        refine v_iload_n dX9_range_68 rfl 2 rfl ?_
        refine v_callVv (q := 111) (ci := 9) (C := RX9) (T := TX9) (NN := 24) (As := [.int x1]) (rest := []) (c_X9_setAll l E N m7 x1) kv_X9_setAll kc111 (by decide) rfl q952 ⟨rfl, rfl⟩ ⟨Nat.le_of_ble_eq_true rfl, Nat.le_of_ble_eq_true rfl⟩ ⟨Nat.zero_le _, Nat.zero_le _⟩ rfl rfl (Nat.le_of_ble_eq_true rfl) dX9_range_69 (fun m8 _ => ?_)
        refine v_aload_n dX9_range_72 rfl 1 rfl ?_
        refine v_callVv (q := 111) (ci := 9) (C := RX9) (T := TX9) (NN := 24) (As := []) (rest := []) (c_X9_push l E N m8) kv_X9_push kc111 (by decide) rfl q940 ⟨rfl, rfl⟩ ⟨Nat.le_of_ble_eq_true rfl, Nat.le_of_ble_eq_true rfl⟩ ⟨Nat.zero_le _, Nat.zero_le _⟩ rfl rfl (Nat.le_of_ble_eq_true rfl) dX9_range_73 (fun m9 _ => ?_)
        refine v_iload dX9_range_76 0 rfl ?_
        exact v_iret dX9_range_78
      · refine v_sub [0] rfl ?_
        exact w_X9_range_33 l E N m3

def rm_X9_toldOfNode : Room := { frames := 1, cells := 0, slots := 0, locals := 22 }
def f_X9_toldOfNode (m0 : Mem) (x1 : Int32) (x2 : Int32) : Option (Mem × Int32) := if x2 = 6 then (bm (f_X9_ofNode m0 x1 10) (fun m1 r1 => some (m1, r1))) else (if x2 = 7 then (bm (f_X9_ofNode m0 x1 11) (fun m2 r2 => some (m2, r2))) else (if x2 = 8 then (bm (f_X9_ofNode m0 x1 9) (fun m3 r3 => some (m3, r3))) else (bm (f_X9_ofNode m0 x1 x2) (fun m4 r4 => some (m4, r4)))))
theorem c_X9_toldOfNode (l : Launch) (E : EnvT) (m0 : Mem) (x1 : Int32) (x2 : Int32) : CT l E yX9_toldOfNode cX9_toldOfNode 3 (some .int) (rm_X9_toldOfNode) rvI (f_X9_toldOfNode m0 x1 x2) [.ref (eAd E 111), .int x1, .int x2] m0 := by
  refine CT.ofV (own := RX9) (by decide) rfl (Nat.le_of_ble_eq_true rfl) ?_
  show V l E RX9 cX9_toldOfNode 3 (some .int) (rm_X9_toldOfNode) 0 0 (Zm E) rvI _ m0 0 [(0, .ref (eAd E 111)), (1, .int x1), (2, .int x2)] []
  unfold f_X9_toldOfNode
  refine v_iload_n dX9_toldOfNode_0 rfl 2 rfl ?_
  refine v_tcase (k := 6) (tgt := 28) dX9_toldOfNode_1 (by decide) (by decide) rfl (by decide) ?_ (fun n1_0 => ?_)
  · refine v_aload_n dX9_toldOfNode_28 rfl 0 rfl ?_
    refine v_iload_n dX9_toldOfNode_29 rfl 1 rfl ?_
    refine v_bipush (v := 10) dX9_toldOfNode_30 rfl ?_
    refine v_callVi (q := 111) (ci := 9) (C := RX9) (T := TX9) (NN := 24) (As := [.int x1, .int 10]) (rest := []) (c_X9_ofNode l E m0 x1 10) kv_X9_ofNode kc111 (by decide) rfl q915 ⟨rfl, rfl⟩ ⟨Nat.le_of_ble_eq_true rfl, Nat.le_of_ble_eq_true rfl⟩ ⟨Nat.zero_le _, Nat.zero_le _⟩ rfl rfl (Nat.le_of_ble_eq_true rfl) dX9_toldOfNode_32 (fun m1 r1 => ?_)
    exact v_iret dX9_toldOfNode_35
  refine v_tcase (k := 7) (tgt := 36) dX9_toldOfNode_1 (by decide) (by decide) rfl (by decide) ?_ (fun n1_1 => ?_)
  · refine v_aload_n dX9_toldOfNode_36 rfl 0 rfl ?_
    refine v_iload_n dX9_toldOfNode_37 rfl 1 rfl ?_
    refine v_bipush (v := 11) dX9_toldOfNode_38 rfl ?_
    refine v_callVi (q := 111) (ci := 9) (C := RX9) (T := TX9) (NN := 24) (As := [.int x1, .int 11]) (rest := []) (c_X9_ofNode l E m0 x1 11) kv_X9_ofNode kc111 (by decide) rfl q915 ⟨rfl, rfl⟩ ⟨Nat.le_of_ble_eq_true rfl, Nat.le_of_ble_eq_true rfl⟩ ⟨Nat.zero_le _, Nat.zero_le _⟩ rfl rfl (Nat.le_of_ble_eq_true rfl) dX9_toldOfNode_40 (fun m2 r2 => ?_)
    exact v_iret dX9_toldOfNode_43
  refine v_tcase (k := 8) (tgt := 44) dX9_toldOfNode_1 (by decide) (by decide) rfl (by decide) ?_ (fun n1_2 => ?_)
  · refine v_aload_n dX9_toldOfNode_44 rfl 0 rfl ?_
    refine v_iload_n dX9_toldOfNode_45 rfl 1 rfl ?_
    refine v_bipush (v := 9) dX9_toldOfNode_46 rfl ?_
    refine v_callVi (q := 111) (ci := 9) (C := RX9) (T := TX9) (NN := 24) (As := [.int x1, .int 9]) (rest := []) (c_X9_ofNode l E m0 x1 9) kv_X9_ofNode kc111 (by decide) rfl q915 ⟨rfl, rfl⟩ ⟨Nat.le_of_ble_eq_true rfl, Nat.le_of_ble_eq_true rfl⟩ ⟨Nat.zero_le _, Nat.zero_le _⟩ rfl rfl (Nat.le_of_ble_eq_true rfl) dX9_toldOfNode_48 (fun m3 r3 => ?_)
    exact v_iret dX9_toldOfNode_51
  refine v_tout (tgt := 52) dX9_toldOfNode_1 (by have en1_0 := lv_neT (a := 6) n1_0 rfl; have en1_1 := lv_neT (a := 7) n1_1 rfl; have en1_2 := lv_neT (a := 8) n1_2 rfl; omega) (by decide) ?_
  refine v_aload_n dX9_toldOfNode_52 rfl 0 rfl ?_
  refine v_iload_n dX9_toldOfNode_53 rfl 1 rfl ?_
  refine v_iload_n dX9_toldOfNode_54 rfl 2 rfl ?_
  refine v_callVi (q := 111) (ci := 9) (C := RX9) (T := TX9) (NN := 24) (As := [.int x1, .int x2]) (rest := []) (c_X9_ofNode l E m0 x1 x2) kv_X9_ofNode kc111 (by decide) rfl q915 ⟨rfl, rfl⟩ ⟨Nat.le_of_ble_eq_true rfl, Nat.le_of_ble_eq_true rfl⟩ ⟨Nat.zero_le _, Nat.zero_le _⟩ rfl rfl (Nat.le_of_ble_eq_true rfl) dX9_toldOfNode_55 (fun m4 r4 => ?_)
  exact v_iret dX9_toldOfNode_58

def rm_X9_of : Room := { frames := 2, cells := 0, slots := 0, locals := 44 }
def f_X9_of_27 (m0 : Mem) : Option (Mem × Int32) := bm (f_X9_refuses m0 (-10002)) (fun m1 r1 => some (m1, r1))
theorem w_X9_of_27 (l : Launch) (E : EnvT) (m0 : Mem) : V l E RX9 cX9_of 3 (some .int) (rm_X9_of) 0 0 (Zm E) rvI (f_X9_of_27 m0) m0 27 [(0, .ref (eAd E 111))] [] := by
  unfold f_X9_of_27
  refine v_aload_n dX9_of_27 rfl 0 rfl ?_
  refine v_sipush (v := (-10002)) dX9_of_28 rfl ?_
  refine v_callVi (q := 111) (ci := 9) (C := RX9) (T := TX9) (NN := 24) (As := [.int (-10002)]) (rest := []) (c_X9_refuses l E m0 (-10002)) kv_X9_refuses kc111 (by decide) rfl q900 ⟨rfl, rfl⟩ ⟨Nat.le_of_ble_eq_true rfl, Nat.le_of_ble_eq_true rfl⟩ ⟨Nat.zero_le _, Nat.zero_le _⟩ rfl rfl (Nat.le_of_ble_eq_true rfl) dX9_of_31 (fun m1 r1 => ?_)
  exact v_iret dX9_of_34
def f_X9_of (m0 : Mem) (x1 : Int32) (x2 : Int32) : Option (Mem × Int32) := bm (f_X9_isNode m0 x1) (fun m1 r1 => if r1 = 0 then (f_X9_of_27 m1) else (bm (f_X9_in m1 x2 0 8) (fun m2 r2 => if r2 = 0 then (f_X9_of_27 m2) else (bm (f_X9_toldOfNode m2 x1 x2) (fun m3 r3 => some (m3, r3))))))
theorem c_X9_of (l : Launch) (E : EnvT) (m0 : Mem) (x1 : Int32) (x2 : Int32) : CT l E yX9_of cX9_of 3 (some .int) (rm_X9_of) rvI (f_X9_of m0 x1 x2) [.ref (eAd E 111), .int x1, .int x2] m0 := by
  refine CT.ofV (own := RX9) (by decide) rfl (Nat.le_of_ble_eq_true rfl) ?_
  show V l E RX9 cX9_of 3 (some .int) (rm_X9_of) 0 0 (Zm E) rvI _ m0 0 [(0, .ref (eAd E 111)), (1, .int x1), (2, .int x2)] []
  unfold f_X9_of
  refine v_aload_n dX9_of_0 rfl 0 rfl ?_
  refine v_iload_n dX9_of_1 rfl 1 rfl ?_
  refine v_callVi (q := 111) (ci := 9) (C := RX9) (T := TX9) (NN := 24) (As := [.int x1]) (rest := []) (c_X9_isNode l E m0 x1) kv_X9_isNode kc111 (by decide) rfl q908 ⟨rfl, rfl⟩ ⟨Nat.le_of_ble_eq_true rfl, Nat.le_of_ble_eq_true rfl⟩ ⟨Nat.zero_le _, Nat.zero_le _⟩ rfl rfl (Nat.le_of_ble_eq_true rfl) dX9_of_2 (fun m1 r1 => ?_)
  refine v_if_eq (tgt := 27) dX9_of_5 (by decide) ?_ ?_
  · refine v_sub [0] rfl ?_
    exact w_X9_of_27 l E m1
  · refine v_iload_n dX9_of_8 rfl 2 rfl ?_
    refine v_iconst (v := 0) dX9_of_9 rfl ?_
    refine v_bipush (v := 8) dX9_of_10 rfl ?_
    refine v_callSi (As := [.int x2, .int 0, .int 8]) (rest := []) (c_X9_in l E m1 x2 0 8) ks_X9_in q912 ⟨rfl, rfl⟩ ⟨Nat.le_of_ble_eq_true rfl, Nat.le_of_ble_eq_true rfl⟩ ⟨Nat.zero_le _, Nat.zero_le _⟩ rfl rfl (Nat.le_of_ble_eq_true rfl) dX9_of_12 (fun m2 r2 => ?_)
    refine v_if_eq (tgt := 27) dX9_of_15 (by decide) ?_ ?_
    · refine v_sub [0] rfl ?_
      exact w_X9_of_27 l E m2
    · refine v_aload_n dX9_of_18 rfl 0 rfl ?_
      refine v_iload_n dX9_of_19 rfl 1 rfl ?_
      refine v_iload_n dX9_of_20 rfl 2 rfl ?_
      refine v_callVi (q := 111) (ci := 9) (C := RX9) (T := TX9) (NN := 24) (As := [.int x1, .int x2]) (rest := []) (c_X9_toldOfNode l E m2 x1 x2) kv_X9_toldOfNode kc111 (by decide) rfl q960 ⟨rfl, rfl⟩ ⟨Nat.le_of_ble_eq_true rfl, Nat.le_of_ble_eq_true rfl⟩ ⟨Nat.zero_le _, Nat.zero_le _⟩ rfl rfl (Nat.le_of_ble_eq_true rfl) dX9_of_21 (fun m3 r3 => ?_)
      refine v_goto (tgt := 34) dX9_of_24 (by decide) ?_
      exact v_iret dX9_of_34

def rm_X9_value : Room := { frames := 3, cells := 0, slots := 0, locals := 65 }
def f_X9_value_32 (m0 : Mem) : Option (Mem × Int32) := bm (f_X9_refuses m0 (-10002)) (fun m1 r1 => some (m1, r1))
theorem w_X9_value_32 (l : Launch) (E : EnvT) (m0 : Mem) : V l E RX9 cX9_value 3 (some .int) (rm_X9_value) 0 0 (Zm E) rvI (f_X9_value_32 m0) m0 32 [(0, .ref (eAd E 111))] [] := by
  unfold f_X9_value_32
  refine v_aload_n dX9_value_32 rfl 0 rfl ?_
  refine v_sipush (v := (-10002)) dX9_value_33 rfl ?_
  refine v_callVi (q := 111) (ci := 9) (C := RX9) (T := TX9) (NN := 24) (As := [.int (-10002)]) (rest := []) (c_X9_refuses l E m0 (-10002)) kv_X9_refuses kc111 (by decide) rfl q900 ⟨rfl, rfl⟩ ⟨Nat.le_of_ble_eq_true rfl, Nat.le_of_ble_eq_true rfl⟩ ⟨Nat.zero_le _, Nat.zero_le _⟩ rfl rfl (Nat.le_of_ble_eq_true rfl) dX9_value_36 (fun m1 r1 => ?_)
  exact v_iret dX9_value_39
def f_X9_value (m0 : Mem) (x1 : Int32) (x2 : Int32) : Option (Mem × Int32) := bm (f_X9_isKind m0 x1 1) (fun m1 r1 => if r1 = 0 then (f_X9_value_32 m1) else (bm (f_X9_in m1 x2 1 3) (fun m2 r2 => if r2 = 0 then (f_X9_value_32 m2) else (bm (f_X9_ofNode m2 x1 ((6 + x2) - 1)) (fun m3 r3 => some (m3, r3))))))
theorem c_X9_value (l : Launch) (E : EnvT) (m0 : Mem) (x1 : Int32) (x2 : Int32) : CT l E yX9_value cX9_value 3 (some .int) (rm_X9_value) rvI (f_X9_value m0 x1 x2) [.ref (eAd E 111), .int x1, .int x2] m0 := by
  refine CT.ofV (own := RX9) (by decide) rfl (Nat.le_of_ble_eq_true rfl) ?_
  show V l E RX9 cX9_value 3 (some .int) (rm_X9_value) 0 0 (Zm E) rvI _ m0 0 [(0, .ref (eAd E 111)), (1, .int x1), (2, .int x2)] []
  unfold f_X9_value
  refine v_aload_n dX9_value_0 rfl 0 rfl ?_
  refine v_iload_n dX9_value_1 rfl 1 rfl ?_
  refine v_iconst (v := 1) dX9_value_2 rfl ?_
  refine v_callVi (q := 111) (ci := 9) (C := RX9) (T := TX9) (NN := 24) (As := [.int x1, .int 1]) (rest := []) (c_X9_isKind l E m0 x1 1) kv_X9_isKind kc111 (by decide) rfl q948 ⟨rfl, rfl⟩ ⟨Nat.le_of_ble_eq_true rfl, Nat.le_of_ble_eq_true rfl⟩ ⟨Nat.zero_le _, Nat.zero_le _⟩ rfl rfl (Nat.le_of_ble_eq_true rfl) dX9_value_3 (fun m1 r1 => ?_)
  refine v_if_eq (tgt := 32) dX9_value_6 (by decide) ?_ ?_
  · refine v_sub [0] rfl ?_
    exact w_X9_value_32 l E m1
  · refine v_iload_n dX9_value_9 rfl 2 rfl ?_
    refine v_iconst (v := 1) dX9_value_10 rfl ?_
    refine v_iconst (v := 3) dX9_value_11 rfl ?_
    refine v_callSi (As := [.int x2, .int 1, .int 3]) (rest := []) (c_X9_in l E m1 x2 1 3) ks_X9_in q912 ⟨rfl, rfl⟩ ⟨Nat.le_of_ble_eq_true rfl, Nat.le_of_ble_eq_true rfl⟩ ⟨Nat.zero_le _, Nat.zero_le _⟩ rfl rfl (Nat.le_of_ble_eq_true rfl) dX9_value_12 (fun m2 r2 => ?_)
    refine v_if_eq (tgt := 32) dX9_value_15 (by decide) ?_ ?_
    · refine v_sub [0] rfl ?_
      exact w_X9_value_32 l E m2
    · refine v_aload_n dX9_value_18 rfl 0 rfl ?_
      refine v_iload_n dX9_value_19 rfl 1 rfl ?_
      refine v_bipush (v := 6) dX9_value_20 rfl ?_
      refine v_iload_n dX9_value_22 rfl 2 rfl ?_
      refine v_iadd dX9_value_23 ?_
      refine v_iconst (v := 1) dX9_value_24 rfl ?_
      refine v_isub dX9_value_25 ?_
      refine v_callVi (q := 111) (ci := 9) (C := RX9) (T := TX9) (NN := 24) (As := [.int x1, .int ((6 + x2) - 1)]) (rest := []) (c_X9_ofNode l E m2 x1 ((6 + x2) - 1)) kv_X9_ofNode kc111 (by decide) rfl q915 ⟨rfl, rfl⟩ ⟨Nat.le_of_ble_eq_true rfl, Nat.le_of_ble_eq_true rfl⟩ ⟨Nat.zero_le _, Nat.zero_le _⟩ rfl rfl (Nat.le_of_ble_eq_true rfl) dX9_value_26 (fun m3 r3 => ?_)
      refine v_goto (tgt := 39) dX9_value_29 (by decide) ?_
      exact v_iret dX9_value_39

def rm_X9_isSame : Room := { frames := 3, cells := 0, slots := 0, locals := 62 }
def f_X9_isSame_66 (N : Nat) (rec_20 : Mem → Int32 → Int32 → Int32 → Int32 → Int32 → Option (Mem × Int32)) (m0 : Mem) (x1 : Int32) (x2 : Int32) (x3 : Int32) (x5 : Int32) (s0 : Int32) : Option (Mem × Int32) := (rec_20 m0 x1 x2 x3 s0 (x5 + 1))
theorem w_X9_isSame_66 (l : Launch) (E : EnvT) (N : Nat) (rec_20 : Mem → Int32 → Int32 → Int32 → Int32 → Int32 → Option (Mem × Int32)) (hrec_20 : ∀ (m0 : Mem) (x1 : Int32) (x2 : Int32) (x3 : Int32) (x4 : Int32) (x5 : Int32), V l E RX9 cX9_isSame 6 (some .boolean) (rm_X9_isSame) 0 0 (Zm E) rvI (rec_20 m0 x1 x2 x3 x4 x5) m0 20 [(0, .ref (eAd E 111)), (1, .int x1), (2, .int x2), (3, .int x3), (4, .int x4), (5, .int x5)] []) (m0 : Mem) (x1 : Int32) (x2 : Int32) (x3 : Int32) (x5 : Int32) (s0 : Int32) : V l E RX9 cX9_isSame 6 (some .boolean) (rm_X9_isSame) 0 0 (Zm E) rvI (f_X9_isSame_66 N rec_20 m0 x1 x2 x3 x5 s0) m0 66 [(0, .ref (eAd E 111)), (1, .int x1), (2, .int x2), (3, .int x3), (5, .int x5)] [.int s0] := by
  unfold f_X9_isSame_66
  refine v_istore (lv' := [(4, .int s0), (0, .ref (eAd E 111)), (1, .int x1), (2, .int x2), (3, .int x3), (5, .int x5)]) dX9_isSame_66 (Nat.le_of_ble_eq_true rfl) rfl ?_
  refine v_iinc (v := (x5 + 1)) (lv' := [(5, .int (x5 + 1)), (4, .int s0), (0, .ref (eAd E 111)), (1, .int x1), (2, .int x2), (3, .int x3)]) dX9_isSame_68 5 rfl rfl (Nat.le_of_ble_eq_true rfl) rfl ?_
  refine v_goto (tgt := 20) dX9_isSame_71 (by decide) ?_
  refine v_sub [2, 3, 4, 5, 1, 0] rfl ?_
  exact hrec_20 m0 x1 x2 x3 s0 (x5 + 1)
def f_X9_isSame_20b (N : Nat) (rec_20 : Mem → Int32 → Int32 → Int32 → Int32 → Int32 → Option (Mem × Int32)) (m0 : Mem) (x1 : Int32) (x2 : Int32) (x3 : Int32) (x4 : Int32) (x5 : Int32) : Option (Mem × Int32) := if x2 ≤ x5 then (gd (isB x4) (some (m0, x4))) else (if x4 = 0 then (gd (isB x4) (some (m0, x4))) else (bm (f_X9_ofNode m0 x1 (12 + x5)) (fun m1 r1 => gd (inR x3 8) (gd (inR ((m1 117 (ix x3)) + x5) 100) (bm (f_X9_small m1 (m1 116 (ix ((m1 117 (ix x3)) + x5)))) (fun m2 r2 => if r1 = r2 then (f_X9_isSame_66 N rec_20 m2 x1 x2 x3 x5 1) else (f_X9_isSame_66 N rec_20 m2 x1 x2 x3 x5 0)))))))
def f_X9_isSame_20 (N : Nat) : Nat → Mem → Int32 → Int32 → Int32 → Int32 → Int32 → Option (Mem × Int32)
  | 0 => fun _ _ _ _ _ _ => none
  | n + 1 => f_X9_isSame_20b N (f_X9_isSame_20 N n)
theorem w_X9_isSame_20b (l : Launch) (E : EnvT) (N : Nat) (rec_20 : Mem → Int32 → Int32 → Int32 → Int32 → Int32 → Option (Mem × Int32)) (hrec_20 : ∀ (m0 : Mem) (x1 : Int32) (x2 : Int32) (x3 : Int32) (x4 : Int32) (x5 : Int32), V l E RX9 cX9_isSame 6 (some .boolean) (rm_X9_isSame) 0 0 (Zm E) rvI (rec_20 m0 x1 x2 x3 x4 x5) m0 20 [(0, .ref (eAd E 111)), (1, .int x1), (2, .int x2), (3, .int x3), (4, .int x4), (5, .int x5)] []) (m0 : Mem) (x1 : Int32) (x2 : Int32) (x3 : Int32) (x4 : Int32) (x5 : Int32) : V l E RX9 cX9_isSame 6 (some .boolean) (rm_X9_isSame) 0 0 (Zm E) rvI (f_X9_isSame_20b N rec_20 m0 x1 x2 x3 x4 x5) m0 20 [(0, .ref (eAd E 111)), (1, .int x1), (2, .int x2), (3, .int x3), (4, .int x4), (5, .int x5)] [] := by
  unfold f_X9_isSame_20b
  refine v_iload dX9_isSame_20 5 rfl ?_
  refine v_iload_n dX9_isSame_22 rfl 2 rfl ?_
  refine v_icmp_ge (tgt := 74) dX9_isSame_23 (by decide) ?_ ?_
  · refine v_iload dX9_isSame_74 4 rfl ?_
    refine v_gd (fun g76 => ?_)
    exact v_zret g76 dX9_isSame_76
  · refine v_iload dX9_isSame_26 4 rfl ?_
    refine v_if_eq (tgt := 74) dX9_isSame_28 (by decide) ?_ ?_
    · refine v_iload dX9_isSame_74 4 rfl ?_
      refine v_gd (fun g76 => ?_)
      exact v_zret g76 dX9_isSame_76
    · refine v_aload_n dX9_isSame_31 rfl 0 rfl ?_
      refine v_iload_n dX9_isSame_32 rfl 1 rfl ?_
      refine v_bipush (v := 12) dX9_isSame_33 rfl ?_
      refine v_iload dX9_isSame_35 5 rfl ?_
      refine v_iadd dX9_isSame_37 ?_
      refine v_callVi (q := 111) (ci := 9) (C := RX9) (T := TX9) (NN := 24) (As := [.int x1, .int (12 + x5)]) (rest := []) (c_X9_ofNode l E m0 x1 (12 + x5)) kv_X9_ofNode kc111 (by decide) rfl q915 ⟨rfl, rfl⟩ ⟨Nat.le_of_ble_eq_true rfl, Nat.le_of_ble_eq_true rfl⟩ ⟨Nat.zero_le _, Nat.zero_le _⟩ rfl rfl (Nat.le_of_ble_eq_true rfl) dX9_isSame_38 (fun m1 r1 => ?_)
      refine v_aload_n dX9_isSame_41 rfl 0 rfl ?_
      refine gf_X9_text kc111 q827 dX9_isSame_42 ?_
      refine v_aload_n dX9_isSame_45 rfl 0 rfl ?_
      refine gf_X9_wordAt kc111 q829 dX9_isSame_46 ?_
      refine v_iload_n dX9_isSame_49 rfl 3 rfl ?_
      refine v_gd (fun g50 => ?_)
      refine v_iald kc117 rfl g50 dX9_isSame_50 ?_
      refine v_iload dX9_isSame_51 5 rfl ?_
      refine v_iadd dX9_isSame_53 ?_
      refine v_gd (fun g54 => ?_)
      refine v_iald kc116 rfl g54 dX9_isSame_54 ?_
      refine v_callSi (As := [.int (m1 116 (ix ((m1 117 (ix x3)) + x5)))]) (rest := [.int r1]) (c_X9_small l E m1 (m1 116 (ix ((m1 117 (ix x3)) + x5)))) ks_X9_small q937 ⟨rfl, rfl⟩ ⟨Nat.le_of_ble_eq_true rfl, Nat.le_of_ble_eq_true rfl⟩ ⟨Nat.zero_le _, Nat.zero_le _⟩ rfl rfl (Nat.le_of_ble_eq_true rfl) dX9_isSame_55 (fun m2 r2 => ?_)
      refine v_icmp_ne (tgt := 65) dX9_isSame_58 (by decide) ?_ ?_
      · refine v_iconst (v := 0) dX9_isSame_65 rfl ?_
        refine v_sub [0, 1, 2, 3, 5] rfl ?_
        exact w_X9_isSame_66 l E N rec_20 hrec_20 m2 x1 x2 x3 x5 0
      · refine v_iconst (v := 1) dX9_isSame_61 rfl ?_
        refine v_goto (tgt := 66) dX9_isSame_62 (by decide) ?_
        refine v_sub [0, 1, 2, 3, 5] rfl ?_
        exact w_X9_isSame_66 l E N rec_20 hrec_20 m2 x1 x2 x3 x5 1
theorem w_X9_isSame_20 (l : Launch) (E : EnvT) (N : Nat) : ∀ (n : Nat) (m0 : Mem) (x1 : Int32) (x2 : Int32) (x3 : Int32) (x4 : Int32) (x5 : Int32), V l E RX9 cX9_isSame 6 (some .boolean) (rm_X9_isSame) 0 0 (Zm E) rvI (f_X9_isSame_20 N n m0 x1 x2 x3 x4 x5) m0 20 [(0, .ref (eAd E 111)), (1, .int x1), (2, .int x2), (3, .int x3), (4, .int x4), (5, .int x5)] [] := by
  intro n
  induction n with
  | zero => intros; exact v_none
  | succ n ih => exact w_X9_isSame_20b l E N _ ih
def f_X9_isSame_15 (N : Nat) (m0 : Mem) (x1 : Int32) (x2 : Int32) (x3 : Int32) (s0 : Int32) : Option (Mem × Int32) := (f_X9_isSame_20 N N m0 x1 x2 x3 s0 0)
theorem w_X9_isSame_15 (l : Launch) (E : EnvT) (N : Nat) (m0 : Mem) (x1 : Int32) (x2 : Int32) (x3 : Int32) (s0 : Int32) : V l E RX9 cX9_isSame 6 (some .boolean) (rm_X9_isSame) 0 0 (Zm E) rvI (f_X9_isSame_15 N m0 x1 x2 x3 s0) m0 15 [(0, .ref (eAd E 111)), (1, .int x1), (2, .int x2), (3, .int x3)] [.int s0] := by
  unfold f_X9_isSame_15
  refine v_istore (lv' := [(4, .int s0), (0, .ref (eAd E 111)), (1, .int x1), (2, .int x2), (3, .int x3)]) dX9_isSame_15 (Nat.le_of_ble_eq_true rfl) rfl ?_
  refine v_iconst (v := 0) dX9_isSame_17 rfl ?_
  refine v_istore (lv' := [(5, .int 0), (4, .int s0), (0, .ref (eAd E 111)), (1, .int x1), (2, .int x2), (3, .int x3)]) dX9_isSame_18 (Nat.le_of_ble_eq_true rfl) rfl ?_
  refine v_sub [2, 3, 4, 5, 1, 0] rfl ?_
  exact w_X9_isSame_20 l E N N m0 x1 x2 x3 s0 0
def f_X9_isSame (N : Nat) (m0 : Mem) (x1 : Int32) (x2 : Int32) (x3 : Int32) : Option (Mem × Int32) := gd (inR x3 8) (if x2 = (m0 118 (ix x3)) then (f_X9_isSame_15 N m0 x1 x2 x3 1) else (f_X9_isSame_15 N m0 x1 x2 x3 0))
theorem c_X9_isSame (l : Launch) (E : EnvT) (N : Nat) (m0 : Mem) (x1 : Int32) (x2 : Int32) (x3 : Int32) : CT l E yX9_isSame cX9_isSame 6 (some .boolean) (rm_X9_isSame) rvI (f_X9_isSame N m0 x1 x2 x3) [.ref (eAd E 111), .int x1, .int x2, .int x3] m0 := by
  refine CT.ofV (own := RX9) (by decide) rfl (Nat.le_of_ble_eq_true rfl) ?_
  show V l E RX9 cX9_isSame 6 (some .boolean) (rm_X9_isSame) 0 0 (Zm E) rvI _ m0 0 [(0, .ref (eAd E 111)), (1, .int x1), (2, .int x2), (3, .int x3)] []
  unfold f_X9_isSame
  refine v_iload_n dX9_isSame_0 rfl 2 rfl ?_
  refine v_aload_n dX9_isSame_1 rfl 0 rfl ?_
  refine gf_X9_wordSize kc111 q830 dX9_isSame_2 ?_
  refine v_iload_n dX9_isSame_5 rfl 3 rfl ?_
  refine v_gd (fun g6 => ?_)
  refine v_iald kc118 rfl g6 dX9_isSame_6 ?_
  refine v_icmp_ne (tgt := 14) dX9_isSame_7 (by decide) ?_ ?_
  · refine v_iconst (v := 0) dX9_isSame_14 rfl ?_
    exact w_X9_isSame_15 l E N m0 x1 x2 x3 0
  · refine v_iconst (v := 1) dX9_isSame_10 rfl ?_
    refine v_goto (tgt := 15) dX9_isSame_11 (by decide) ?_
    exact w_X9_isSame_15 l E N m0 x1 x2 x3 1

def rm_X9_isFit : Room := { frames := 4, cells := 0, slots := 0, locals := 87 }
def f_X9_isFit_47 (N : Nat) (m0 : Mem) : Option (Mem × Int32) := some (m0, 1)
theorem w_X9_isFit_47 (l : Launch) (E : EnvT) (N : Nat) (m0 : Mem) : V l E RX9 cX9_isFit 3 (some .boolean) (rm_X9_isFit) 0 0 (Zm E) rvI (f_X9_isFit_47 N m0) m0 47 [] [] := by
  unfold f_X9_isFit_47
  refine v_iconst (v := 1) dX9_isFit_47 rfl ?_
  refine v_goto (tgt := 52) dX9_isFit_48 (by decide) ?_
  exact v_zret rfl dX9_isFit_52
def f_X9_isFit (N : Nat) (m0 : Mem) (x1 : Int32) (x2 : Int32) : Option (Mem × Int32) := gd (inR x2 8) (bm (f_X9_ofNode m0 x1 2) (fun m1 r1 => if r1 < (m0 119 (ix x2)) then (some (m1, 0)) else (bm (f_X9_ofNode m1 x1 10) (fun m2 r2 => bm (f_X9_isSame N m2 x1 r2 x2) (fun m3 r3 => if r3 = 0 then (bm (f_X9_ofNode m3 x1 11) (fun m4 r4 => bm (f_X9_isSame N m4 x1 r4 x2) (fun m5 r5 => if r5 = 0 then (some (m5, 0)) else (f_X9_isFit_47 N m5)))) else (f_X9_isFit_47 N m3))))))
theorem c_X9_isFit (l : Launch) (E : EnvT) (N : Nat) (m0 : Mem) (x1 : Int32) (x2 : Int32) : CT l E yX9_isFit cX9_isFit 3 (some .boolean) (rm_X9_isFit) rvI (f_X9_isFit N m0 x1 x2) [.ref (eAd E 111), .int x1, .int x2] m0 := by
  refine CT.ofV (own := RX9) (by decide) rfl (Nat.le_of_ble_eq_true rfl) ?_
  show V l E RX9 cX9_isFit 3 (some .boolean) (rm_X9_isFit) 0 0 (Zm E) rvI _ m0 0 [(0, .ref (eAd E 111)), (1, .int x1), (2, .int x2)] []
  unfold f_X9_isFit
  refine v_aload_n dX9_isFit_0 rfl 0 rfl ?_
  refine gf_X9_wordFigure kc111 q831 dX9_isFit_1 ?_
  refine v_iload_n dX9_isFit_4 rfl 2 rfl ?_
  refine v_gd (fun g5 => ?_)
  refine v_iald kc119 rfl g5 dX9_isFit_5 ?_
  refine v_aload_n dX9_isFit_6 rfl 0 rfl ?_
  refine v_iload_n dX9_isFit_7 rfl 1 rfl ?_
  refine v_iconst (v := 2) dX9_isFit_8 rfl ?_
  refine v_callVi (q := 111) (ci := 9) (C := RX9) (T := TX9) (NN := 24) (As := [.int x1, .int 2]) (rest := [.int (m0 119 (ix x2))]) (c_X9_ofNode l E m0 x1 2) kv_X9_ofNode kc111 (by decide) rfl q915 ⟨rfl, rfl⟩ ⟨Nat.le_of_ble_eq_true rfl, Nat.le_of_ble_eq_true rfl⟩ ⟨Nat.zero_le _, Nat.zero_le _⟩ rfl rfl (Nat.le_of_ble_eq_true rfl) dX9_isFit_9 (fun m1 r1 => ?_)
  refine v_icmp_gt (tgt := 51) dX9_isFit_12 (by decide) ?_ ?_
  · refine v_iconst (v := 0) dX9_isFit_51 rfl ?_
    exact v_zret rfl dX9_isFit_52
  · refine v_aload_n dX9_isFit_15 rfl 0 rfl ?_
    refine v_iload_n dX9_isFit_16 rfl 1 rfl ?_
    refine v_aload_n dX9_isFit_17 rfl 0 rfl ?_
    refine v_iload_n dX9_isFit_18 rfl 1 rfl ?_
    refine v_bipush (v := 10) dX9_isFit_19 rfl ?_
    refine v_callVi (q := 111) (ci := 9) (C := RX9) (T := TX9) (NN := 24) (As := [.int x1, .int 10]) (rest := [.int x1, .ref (eAd E 111)]) (c_X9_ofNode l E m1 x1 10) kv_X9_ofNode kc111 (by decide) rfl q915 ⟨rfl, rfl⟩ ⟨Nat.le_of_ble_eq_true rfl, Nat.le_of_ble_eq_true rfl⟩ ⟨Nat.zero_le _, Nat.zero_le _⟩ rfl rfl (Nat.le_of_ble_eq_true rfl) dX9_isFit_21 (fun m2 r2 => ?_)
    refine v_iload_n dX9_isFit_24 rfl 2 rfl ?_
    refine v_callVi (q := 111) (ci := 9) (C := RX9) (T := TX9) (NN := 24) (As := [.int x1, .int r2, .int x2]) (rest := []) (c_X9_isSame l E N m2 x1 r2 x2) kv_X9_isSame kc111 (by decide) rfl q1043 ⟨rfl, rfl⟩ ⟨Nat.le_of_ble_eq_true rfl, Nat.le_of_ble_eq_true rfl⟩ ⟨Nat.zero_le _, Nat.zero_le _⟩ rfl rfl (Nat.le_of_ble_eq_true rfl) dX9_isFit_25 (fun m3 r3 => ?_)
    refine v_if_ne (tgt := 47) dX9_isFit_28 (by decide) ?_ ?_
    · refine v_sub [] rfl ?_
      exact w_X9_isFit_47 l E N m3
    · refine v_aload_n dX9_isFit_31 rfl 0 rfl ?_
      refine v_iload_n dX9_isFit_32 rfl 1 rfl ?_
      refine v_aload_n dX9_isFit_33 rfl 0 rfl ?_
      refine v_iload_n dX9_isFit_34 rfl 1 rfl ?_
      refine v_bipush (v := 11) dX9_isFit_35 rfl ?_
      refine v_callVi (q := 111) (ci := 9) (C := RX9) (T := TX9) (NN := 24) (As := [.int x1, .int 11]) (rest := [.int x1, .ref (eAd E 111)]) (c_X9_ofNode l E m3 x1 11) kv_X9_ofNode kc111 (by decide) rfl q915 ⟨rfl, rfl⟩ ⟨Nat.le_of_ble_eq_true rfl, Nat.le_of_ble_eq_true rfl⟩ ⟨Nat.zero_le _, Nat.zero_le _⟩ rfl rfl (Nat.le_of_ble_eq_true rfl) dX9_isFit_37 (fun m4 r4 => ?_)
      refine v_iload_n dX9_isFit_40 rfl 2 rfl ?_
      refine v_callVi (q := 111) (ci := 9) (C := RX9) (T := TX9) (NN := 24) (As := [.int x1, .int r4, .int x2]) (rest := []) (c_X9_isSame l E N m4 x1 r4 x2) kv_X9_isSame kc111 (by decide) rfl q1043 ⟨rfl, rfl⟩ ⟨Nat.le_of_ble_eq_true rfl, Nat.le_of_ble_eq_true rfl⟩ ⟨Nat.zero_le _, Nat.zero_le _⟩ rfl rfl (Nat.le_of_ble_eq_true rfl) dX9_isFit_41 (fun m5 r5 => ?_)
      refine v_if_eq (tgt := 51) dX9_isFit_44 (by decide) ?_ ?_
      · refine v_iconst (v := 0) dX9_isFit_51 rfl ?_
        exact v_zret rfl dX9_isFit_52
      · refine v_sub [] rfl ?_
        exact w_X9_isFit_47 l E N m5

def rm_X9_pass : Room := { frames := 0, cells := 0, slots := 0, locals := 0 }
def f_X9_pass (m0 : Mem) (x1 : Int32) (x2 : Int32) (x3 : Int32) : Option (Mem × Unit) := gd (inR (m0 111 15) 20) (lm (up m0 120 (ix (m0 111 15)) x1) (fun m1 => gd (inR (m1 111 15) 20) (lm (up m1 121 (ix (m1 111 15)) x2) (fun m2 => gd (inR (m2 111 15) 20) (lm (up m2 122 (ix (m2 111 15)) (vp_nar .boolean x3)) (fun m3 => gd (inR (m3 111 15) 20) (lm (up m3 123 (ix (m3 111 15)) 0) (fun m4 => lm (up m4 111 15 ((m4 111 15) + 1)) (fun m5 => some (m5, ()))))))))))
theorem c_X9_pass (l : Launch) (E : EnvT) (m0 : Mem) (x1 : Int32) (x2 : Int32) (x3 : Int32) : CT l E yX9_pass cX9_pass 4 none (rm_X9_pass) rvV (f_X9_pass m0 x1 x2 x3) [.ref (eAd E 111), .int x1, .int x2, .int x3] m0 := by
  refine CT.ofV (own := RX9) (by decide) rfl (Nat.le_of_ble_eq_true rfl) ?_
  show V l E RX9 cX9_pass 4 none (rm_X9_pass) 0 0 (Zm E) rvV _ m0 0 [(0, .ref (eAd E 111)), (1, .int x1), (2, .int x2), (3, .int x3)] []
  unfold f_X9_pass
  refine v_aload_n dX9_pass_0 rfl 0 rfl ?_
  refine gf_X9_passed kc111 q833 dX9_pass_1 ?_
  refine v_aload_n dX9_pass_4 rfl 0 rfl ?_
  refine gf_X9_deep kc111 q837 dX9_pass_5 ?_
  refine v_iload_n dX9_pass_8 rfl 1 rfl ?_
  refine v_gd (fun g9 => ?_)
  refine v_iast kc120 rfl g9 dX9_pass_9 (fun m1 => ?_)
  refine v_aload_n dX9_pass_10 rfl 0 rfl ?_
  refine gf_X9_gone kc111 q834 dX9_pass_11 ?_
  refine v_aload_n dX9_pass_14 rfl 0 rfl ?_
  refine gf_X9_deep kc111 q837 dX9_pass_15 ?_
  refine v_iload_n dX9_pass_18 rfl 2 rfl ?_
  refine v_gd (fun g19 => ?_)
  refine v_iast kc121 rfl g19 dX9_pass_19 (fun m2 => ?_)
  refine v_aload_n dX9_pass_20 rfl 0 rfl ?_
  refine gf_X9_fits kc111 q835 dX9_pass_21 ?_
  refine v_aload_n dX9_pass_24 rfl 0 rfl ?_
  refine gf_X9_deep kc111 q837 dX9_pass_25 ?_
  refine v_iload_n dX9_pass_28 rfl 3 rfl ?_
  refine v_gd (fun g29 => ?_)
  refine v_zast kc122 rfl g29 dX9_pass_29 (fun m3 => ?_)
  refine v_aload_n dX9_pass_30 rfl 0 rfl ?_
  refine gf_X9_child kc111 q836 dX9_pass_31 ?_
  refine v_aload_n dX9_pass_34 rfl 0 rfl ?_
  refine gf_X9_deep kc111 q837 dX9_pass_35 ?_
  refine v_iconst (v := 0) dX9_pass_38 rfl ?_
  refine v_gd (fun g39 => ?_)
  refine v_iast kc123 rfl g39 dX9_pass_39 (fun m4 => ?_)
  refine v_aload_n dX9_pass_40 rfl 0 rfl ?_
  refine v_dup dX9_pass_41 rfl ?_
  refine gf_X9_deep kc111 q837 dX9_pass_42 ?_
  refine v_iconst (v := 1) dX9_pass_45 rfl ?_
  refine v_iadd dX9_pass_46 ?_
  refine pf_X9_deep kc111 q837 dX9_pass_47 (fun m5 => ?_)
  exact v_vret dX9_pass_50

def rm_X9_goesOn : Room := { frames := 5, cells := 0, slots := 0, locals := 109 }
def f_X9_goesOn_162 (N : Nat) (rec_14 : Mem → Int32 → Int32 → Option (Mem × Int32)) (m0 : Mem) (x1 : Int32) (x2 : Int32) : Option (Mem × Int32) := (rec_14 m0 x1 x2)
theorem w_X9_goesOn_162 (l : Launch) (E : EnvT) (N : Nat) (rec_14 : Mem → Int32 → Int32 → Option (Mem × Int32)) (hrec_14 : ∀ (m0 : Mem) (x1 : Int32) (x2 : Int32), V l E RX9 cX9_goesOn 5 (some .boolean) (rm_X9_goesOn) 0 0 (Zm E) rvI (rec_14 m0 x1 x2) m0 14 [(0, .ref (eAd E 111)), (1, .int x1), (2, .int x2)] []) (m0 : Mem) (x1 : Int32) (x2 : Int32) : V l E RX9 cX9_goesOn 5 (some .boolean) (rm_X9_goesOn) 0 0 (Zm E) rvI (f_X9_goesOn_162 N rec_14 m0 x1 x2) m0 162 [(0, .ref (eAd E 111)), (1, .int x1), (2, .int x2)] [] := by
  unfold f_X9_goesOn_162
  refine v_goto (tgt := 14) dX9_goesOn_162 (by decide) ?_
  exact hrec_14 m0 x1 x2
def f_X9_goesOn_133 (N : Nat) (rec_14 : Mem → Int32 → Int32 → Option (Mem × Int32)) (m0 : Mem) (x1 : Int32) (x2 : Int32) (x3 : Int32) (x4 : Int32) : Option (Mem × Int32) := if x4 = 0 then (bm (f_X9_ofNode m0 x3 3) (fun m1 r1 => if r1 = 1 then (gd (inR x1 20) (bm (f_X9_pass m1 x3 (m1 121 (ix x1)) 0) (fun m2 _ => some (m2, 1)))) else (f_X9_goesOn_162 N rec_14 m1 x1 x2))) else (f_X9_goesOn_162 N rec_14 m0 x1 x2)
theorem w_X9_goesOn_133 (l : Launch) (E : EnvT) (N : Nat) (rec_14 : Mem → Int32 → Int32 → Option (Mem × Int32)) (hrec_14 : ∀ (m0 : Mem) (x1 : Int32) (x2 : Int32), V l E RX9 cX9_goesOn 5 (some .boolean) (rm_X9_goesOn) 0 0 (Zm E) rvI (rec_14 m0 x1 x2) m0 14 [(0, .ref (eAd E 111)), (1, .int x1), (2, .int x2)] []) (m0 : Mem) (x1 : Int32) (x2 : Int32) (x3 : Int32) (x4 : Int32) : V l E RX9 cX9_goesOn 5 (some .boolean) (rm_X9_goesOn) 0 0 (Zm E) rvI (f_X9_goesOn_133 N rec_14 m0 x1 x2 x3 x4) m0 133 [(0, .ref (eAd E 111)), (1, .int x1), (2, .int x2), (3, .int x3), (4, .int x4)] [] := by
  unfold f_X9_goesOn_133
  refine v_iload dX9_goesOn_133 4 rfl ?_
  refine v_if_ne (tgt := 162) dX9_goesOn_135 (by decide) ?_ ?_
  · refine v_sub [0, 1, 2] rfl ?_
    exact w_X9_goesOn_162 l E N rec_14 hrec_14 m0 x1 x2
  · refine v_aload_n dX9_goesOn_138 rfl 0 rfl ?_
    refine v_iload_n dX9_goesOn_139 rfl 3 rfl ?_
    refine v_iconst (v := 3) dX9_goesOn_140 rfl ?_
    refine v_callVi (q := 111) (ci := 9) (C := RX9) (T := TX9) (NN := 24) (As := [.int x3, .int 3]) (rest := []) (c_X9_ofNode l E m0 x3 3) kv_X9_ofNode kc111 (by decide) rfl q915 ⟨rfl, rfl⟩ ⟨Nat.le_of_ble_eq_true rfl, Nat.le_of_ble_eq_true rfl⟩ ⟨Nat.zero_le _, Nat.zero_le _⟩ rfl rfl (Nat.le_of_ble_eq_true rfl) dX9_goesOn_141 (fun m1 r1 => ?_)
    refine v_iconst (v := 1) dX9_goesOn_144 rfl ?_
    refine v_icmp_ne (tgt := 162) dX9_goesOn_145 (by decide) ?_ ?_
    · refine v_sub [0, 1, 2] rfl ?_
      exact w_X9_goesOn_162 l E N rec_14 hrec_14 m1 x1 x2
    · refine v_aload_n dX9_goesOn_148 rfl 0 rfl ?_
      refine v_iload_n dX9_goesOn_149 rfl 3 rfl ?_
      refine v_aload_n dX9_goesOn_150 rfl 0 rfl ?_
      refine gf_X9_gone kc111 q834 dX9_goesOn_151 ?_
      refine v_iload_n dX9_goesOn_154 rfl 1 rfl ?_
      refine v_gd (fun g155 => ?_)
      refine v_iald kc121 rfl g155 dX9_goesOn_155 ?_
      refine v_iconst (v := 0) dX9_goesOn_156 rfl ?_
      refine v_callVv (q := 111) (ci := 9) (C := RX9) (T := TX9) (NN := 24) (As := [.int x3, .int (m1 121 (ix x1)), .int 0]) (rest := []) (c_X9_pass l E m1 x3 (m1 121 (ix x1)) 0) kv_X9_pass kc111 (by decide) rfl q1031 ⟨rfl, rfl⟩ ⟨Nat.le_of_ble_eq_true rfl, Nat.le_of_ble_eq_true rfl⟩ ⟨Nat.zero_le _, Nat.zero_le _⟩ rfl rfl (Nat.le_of_ble_eq_true rfl) dX9_goesOn_157 (fun m2 _ => ?_)
      refine v_iconst (v := 1) dX9_goesOn_160 rfl ?_
      exact v_zret rfl dX9_goesOn_161
def f_X9_goesOn_51 (N : Nat) (rec_14 : Mem → Int32 → Int32 → Option (Mem × Int32)) (m0 : Mem) (x1 : Int32) (x2 : Int32) (x3 : Int32) (s0 : Int32) : Option (Mem × Int32) := gd (inR x1 20) (gd (inR x1 20) (lm (up m0 123 (ix x1) ((m0 123 (ix x1)) + 1)) (fun m1 => if x3 ≤ 0 then (f_X9_goesOn_162 N rec_14 m1 x1 x2) else (bm (f_X9_isNode m1 x3) (fun m2 r2 => if r2 = 0 then (f_X9_goesOn_162 N rec_14 m2 x1 x2) else (bm (f_X9_ofNode m2 x3 0) (fun m3 r3 => if r3 = x2 then (if s0 = 0 then (f_X9_goesOn_133 N rec_14 m3 x1 x2 x3 s0) else (gd (inR x1 20) (if (m3 111 10) ≤ (m3 121 (ix x1)) then (f_X9_goesOn_133 N rec_14 m3 x1 x2 x3 s0) else (gd (inR x1 20) (bm (f_X9_isFit N m3 x3 (m3 121 (ix x1))) (fun m4 r4 => if r4 = 0 then (f_X9_goesOn_133 N rec_14 m4 x1 x2 x3 s0) else (gd (inR x1 20) (bm (f_X9_pass m4 x3 ((m4 121 (ix x1)) + 1) 1) (fun m5 _ => some (m5, 1)))))))))) else (f_X9_goesOn_162 N rec_14 m3 x1 x2))))))))
theorem w_X9_goesOn_51 (l : Launch) (E : EnvT) (N : Nat) (rec_14 : Mem → Int32 → Int32 → Option (Mem × Int32)) (hrec_14 : ∀ (m0 : Mem) (x1 : Int32) (x2 : Int32), V l E RX9 cX9_goesOn 5 (some .boolean) (rm_X9_goesOn) 0 0 (Zm E) rvI (rec_14 m0 x1 x2) m0 14 [(0, .ref (eAd E 111)), (1, .int x1), (2, .int x2)] []) (m0 : Mem) (x1 : Int32) (x2 : Int32) (x3 : Int32) (s0 : Int32) : V l E RX9 cX9_goesOn 5 (some .boolean) (rm_X9_goesOn) 0 0 (Zm E) rvI (f_X9_goesOn_51 N rec_14 m0 x1 x2 x3 s0) m0 51 [(0, .ref (eAd E 111)), (1, .int x1), (2, .int x2), (3, .int x3)] [.int s0] := by
  unfold f_X9_goesOn_51
  refine v_istore (lv' := [(4, .int s0), (0, .ref (eAd E 111)), (1, .int x1), (2, .int x2), (3, .int x3)]) dX9_goesOn_51 (Nat.le_of_ble_eq_true rfl) rfl ?_
  refine v_aload_n dX9_goesOn_53 rfl 1 rfl ?_
  refine gf_X9_child kc111 q836 dX9_goesOn_54 ?_
  refine v_iload_n dX9_goesOn_57 rfl 2 rfl ?_
  refine v_dup2 dX9_goesOn_58 rfl rfl ?_
  refine v_gd (fun g59 => ?_)
  refine v_iald kc123 rfl g59 dX9_goesOn_59 ?_
  refine v_iconst (v := 1) dX9_goesOn_60 rfl ?_
  refine v_iadd dX9_goesOn_61 ?_
  refine v_gd (fun g62 => ?_)
  refine v_iast kc123 rfl g62 dX9_goesOn_62 (fun m1 => ?_)
  refine v_iload_n dX9_goesOn_63 rfl 4 rfl ?_
  refine v_if_le (tgt := 162) dX9_goesOn_64 (by decide) ?_ ?_
  · refine v_sub [1, 2, 3] rfl ?_
    exact w_X9_goesOn_162 l E N rec_14 hrec_14 m1 x1 x2
  · refine v_aload_n dX9_goesOn_67 rfl 1 rfl ?_
    refine v_iload_n dX9_goesOn_68 rfl 4 rfl ?_
    refine v_callVi (q := 111) (ci := 9) (C := RX9) (T := TX9) (NN := 24) (As := [.int x3]) (rest := []) (c_X9_isNode l E m1 x3) kv_X9_isNode kc111 (by decide) rfl q908 ⟨rfl, rfl⟩ ⟨Nat.le_of_ble_eq_true rfl, Nat.le_of_ble_eq_true rfl⟩ ⟨Nat.zero_le _, Nat.zero_le _⟩ rfl rfl (Nat.le_of_ble_eq_true rfl) dX9_goesOn_69 (fun m2 r2 => ?_)
    refine v_if_eq (tgt := 162) dX9_goesOn_72 (by decide) ?_ ?_
    · refine v_sub [1, 2, 3] rfl ?_
      exact w_X9_goesOn_162 l E N rec_14 hrec_14 m2 x1 x2
    · refine v_aload_n dX9_goesOn_75 rfl 1 rfl ?_
      refine v_iload_n dX9_goesOn_76 rfl 4 rfl ?_
      refine v_iconst (v := 0) dX9_goesOn_77 rfl ?_
      refine v_callVi (q := 111) (ci := 9) (C := RX9) (T := TX9) (NN := 24) (As := [.int x3, .int 0]) (rest := []) (c_X9_ofNode l E m2 x3 0) kv_X9_ofNode kc111 (by decide) rfl q915 ⟨rfl, rfl⟩ ⟨Nat.le_of_ble_eq_true rfl, Nat.le_of_ble_eq_true rfl⟩ ⟨Nat.zero_le _, Nat.zero_le _⟩ rfl rfl (Nat.le_of_ble_eq_true rfl) dX9_goesOn_78 (fun m3 r3 => ?_)
      refine v_iload_n dX9_goesOn_81 rfl 3 rfl ?_
      refine v_icmp_ne (tgt := 162) dX9_goesOn_82 (by decide) ?_ ?_
      · refine v_sub [1, 2, 3] rfl ?_
        exact w_X9_goesOn_162 l E N rec_14 hrec_14 m3 x1 x2
      · refine v_iload dX9_goesOn_85 0 rfl ?_
        refine v_if_eq (tgt := 133) dX9_goesOn_87 (by decide) ?_ ?_
        · refine v_sub [1, 2, 3, 4, 0] rfl ?_
          exact w_X9_goesOn_133 l E N rec_14 hrec_14 m3 x1 x2 x3 s0
        · refine v_aload_n dX9_goesOn_90 rfl 1 rfl ?_
          refine gf_X9_gone kc111 q834 dX9_goesOn_91 ?_
          refine v_iload_n dX9_goesOn_94 rfl 2 rfl ?_
          refine v_gd (fun g95 => ?_)
          refine v_iald kc121 rfl g95 dX9_goesOn_95 ?_
          refine v_aload_n dX9_goesOn_96 rfl 1 rfl ?_
          refine gf_X9_words kc111 q832 dX9_goesOn_97 ?_
          refine v_icmp_ge (tgt := 133) dX9_goesOn_100 (by decide) ?_ ?_
          · refine v_sub [1, 2, 3, 4, 0] rfl ?_
            exact w_X9_goesOn_133 l E N rec_14 hrec_14 m3 x1 x2 x3 s0
          · refine v_aload_n dX9_goesOn_103 rfl 1 rfl ?_
            refine v_iload_n dX9_goesOn_104 rfl 4 rfl ?_
            refine v_aload_n dX9_goesOn_105 rfl 1 rfl ?_
            refine gf_X9_gone kc111 q834 dX9_goesOn_106 ?_
            refine v_iload_n dX9_goesOn_109 rfl 2 rfl ?_
            refine v_gd (fun g110 => ?_)
            refine v_iald kc121 rfl g110 dX9_goesOn_110 ?_
            refine v_callVi (q := 111) (ci := 9) (C := RX9) (T := TX9) (NN := 24) (As := [.int x3, .int (m3 121 (ix x1))]) (rest := []) (c_X9_isFit l E N m3 x3 (m3 121 (ix x1))) kv_X9_isFit kc111 (by decide) rfl q1039 ⟨rfl, rfl⟩ ⟨Nat.le_of_ble_eq_true rfl, Nat.le_of_ble_eq_true rfl⟩ ⟨Nat.zero_le _, Nat.zero_le _⟩ rfl rfl (Nat.le_of_ble_eq_true rfl) dX9_goesOn_111 (fun m4 r4 => ?_)
            refine v_if_eq (tgt := 133) dX9_goesOn_114 (by decide) ?_ ?_
            · refine v_sub [1, 2, 3, 4, 0] rfl ?_
              exact w_X9_goesOn_133 l E N rec_14 hrec_14 m4 x1 x2 x3 s0
            · refine v_aload_n dX9_goesOn_117 rfl 1 rfl ?_
              refine v_iload_n dX9_goesOn_118 rfl 4 rfl ?_
              refine v_aload_n dX9_goesOn_119 rfl 1 rfl ?_
              refine gf_X9_gone kc111 q834 dX9_goesOn_120 ?_
              refine v_iload_n dX9_goesOn_123 rfl 2 rfl ?_
              refine v_gd (fun g124 => ?_)
              refine v_iald kc121 rfl g124 dX9_goesOn_124 ?_
              refine v_iconst (v := 1) dX9_goesOn_125 rfl ?_
              refine v_iadd dX9_goesOn_126 ?_
              refine v_iconst (v := 1) dX9_goesOn_127 rfl ?_
              refine v_callVv (q := 111) (ci := 9) (C := RX9) (T := TX9) (NN := 24) (As := [.int x3, .int ((m4 121 (ix x1)) + 1), .int 1]) (rest := []) (c_X9_pass l E m4 x3 ((m4 121 (ix x1)) + 1) 1) kv_X9_pass kc111 (by decide) rfl q1031 ⟨rfl, rfl⟩ ⟨Nat.le_of_ble_eq_true rfl, Nat.le_of_ble_eq_true rfl⟩ ⟨Nat.zero_le _, Nat.zero_le _⟩ rfl rfl (Nat.le_of_ble_eq_true rfl) dX9_goesOn_128 (fun m5 _ => ?_)
              refine v_iconst (v := 1) dX9_goesOn_131 rfl ?_
              exact v_zret rfl dX9_goesOn_132
def f_X9_goesOn_14b (N : Nat) (rec_14 : Mem → Int32 → Int32 → Option (Mem × Int32)) (m0 : Mem) (x1 : Int32) (x2 : Int32) : Option (Mem × Int32) := gd (inR x1 20) (if 32 ≤ (m0 123 (ix x1)) then (some (m0, 0)) else (gd (inR x1 20) (gd (inR x1 20) (if 16 ≤ (m0 123 (ix x1)) then (f_X9_goesOn_51 N rec_14 m0 x1 x2 ((m0 123 (ix x1)) - (m0 123 (ix x1)) / 16 * 16) 0) else (f_X9_goesOn_51 N rec_14 m0 x1 x2 ((m0 123 (ix x1)) - (m0 123 (ix x1)) / 16 * 16) 1)))))
def f_X9_goesOn_14 (N : Nat) : Nat → Mem → Int32 → Int32 → Option (Mem × Int32)
  | 0 => fun _ _ _ => none
  | n + 1 => f_X9_goesOn_14b N (f_X9_goesOn_14 N n)
theorem w_X9_goesOn_14b (l : Launch) (E : EnvT) (N : Nat) (rec_14 : Mem → Int32 → Int32 → Option (Mem × Int32)) (hrec_14 : ∀ (m0 : Mem) (x1 : Int32) (x2 : Int32), V l E RX9 cX9_goesOn 5 (some .boolean) (rm_X9_goesOn) 0 0 (Zm E) rvI (rec_14 m0 x1 x2) m0 14 [(0, .ref (eAd E 111)), (1, .int x1), (2, .int x2)] []) (m0 : Mem) (x1 : Int32) (x2 : Int32) : V l E RX9 cX9_goesOn 5 (some .boolean) (rm_X9_goesOn) 0 0 (Zm E) rvI (f_X9_goesOn_14b N rec_14 m0 x1 x2) m0 14 [(0, .ref (eAd E 111)), (1, .int x1), (2, .int x2)] [] := by
  unfold f_X9_goesOn_14b
  refine v_aload_n dX9_goesOn_14 rfl 0 rfl ?_
  refine gf_X9_child kc111 q836 dX9_goesOn_15 ?_
  refine v_iload_n dX9_goesOn_18 rfl 1 rfl ?_
  refine v_gd (fun g19 => ?_)
  refine v_iald kc123 rfl g19 dX9_goesOn_19 ?_
  refine v_bipush (v := 32) dX9_goesOn_20 rfl ?_
  refine v_icmp_ge (tgt := 165) dX9_goesOn_22 (by decide) ?_ ?_
  · refine v_iconst (v := 0) dX9_goesOn_165 rfl ?_
    exact v_zret rfl dX9_goesOn_166
  · refine v_aload_n dX9_goesOn_25 rfl 0 rfl ?_
    refine gf_X9_child kc111 q836 dX9_goesOn_26 ?_
    refine v_iload_n dX9_goesOn_29 rfl 1 rfl ?_
    refine v_gd (fun g30 => ?_)
    refine v_iald kc123 rfl g30 dX9_goesOn_30 ?_
    refine v_bipush (v := 16) dX9_goesOn_31 rfl ?_
    refine v_irem dX9_goesOn_33 (by decide) ?_
    refine v_istore_n (lv' := [(3, .int ((m0 123 (ix x1)) - (m0 123 (ix x1)) / 16 * 16)), (0, .ref (eAd E 111)), (1, .int x1), (2, .int x2)]) dX9_goesOn_34 rfl (Nat.le_of_ble_eq_true rfl) rfl ?_
    refine v_aload_n dX9_goesOn_35 rfl 1 rfl ?_
    refine gf_X9_child kc111 q836 dX9_goesOn_36 ?_
    refine v_iload_n dX9_goesOn_39 rfl 2 rfl ?_
    refine v_gd (fun g40 => ?_)
    refine v_iald kc123 rfl g40 dX9_goesOn_40 ?_
    refine v_bipush (v := 16) dX9_goesOn_41 rfl ?_
    refine v_icmp_ge (tgt := 50) dX9_goesOn_43 (by decide) ?_ ?_
    · refine v_iconst (v := 0) dX9_goesOn_50 rfl ?_
      refine v_sub [1, 2, 3, 0] rfl ?_
      exact w_X9_goesOn_51 l E N rec_14 hrec_14 m0 x1 x2 ((m0 123 (ix x1)) - (m0 123 (ix x1)) / 16 * 16) 0
    · refine v_iconst (v := 1) dX9_goesOn_46 rfl ?_
      refine v_goto (tgt := 51) dX9_goesOn_47 (by decide) ?_
      refine v_sub [1, 2, 3, 0] rfl ?_
      exact w_X9_goesOn_51 l E N rec_14 hrec_14 m0 x1 x2 ((m0 123 (ix x1)) - (m0 123 (ix x1)) / 16 * 16) 1
theorem w_X9_goesOn_14 (l : Launch) (E : EnvT) (N : Nat) : ∀ (n : Nat) (m0 : Mem) (x1 : Int32) (x2 : Int32), V l E RX9 cX9_goesOn 5 (some .boolean) (rm_X9_goesOn) 0 0 (Zm E) rvI (f_X9_goesOn_14 N n m0 x1 x2) m0 14 [(0, .ref (eAd E 111)), (1, .int x1), (2, .int x2)] [] := by
  intro n
  induction n with
  | zero => intros; exact v_none
  | succ n ih => exact w_X9_goesOn_14b l E N _ ih
def f_X9_goesOn (N : Nat) (m0 : Mem) : Option (Mem × Int32) := gd (inR ((m0 111 15) - 1) 20) ((f_X9_goesOn_14 N N m0 ((m0 111 15) - 1) (m0 120 (ix ((m0 111 15) - 1)))))
theorem c_X9_goesOn (l : Launch) (E : EnvT) (N : Nat) (m0 : Mem) : CT l E yX9_goesOn cX9_goesOn 5 (some .boolean) (rm_X9_goesOn) rvI (f_X9_goesOn N m0) [.ref (eAd E 111)] m0 := by
  refine CT.ofV (own := RX9) (by decide) rfl (Nat.le_of_ble_eq_true rfl) ?_
  show V l E RX9 cX9_goesOn 5 (some .boolean) (rm_X9_goesOn) 0 0 (Zm E) rvI _ m0 0 [(0, .ref (eAd E 111))] []
  unfold f_X9_goesOn
  refine v_aload_n dX9_goesOn_0 rfl 0 rfl ?_
  refine gf_X9_deep kc111 q837 dX9_goesOn_1 ?_
  refine v_iconst (v := 1) dX9_goesOn_4 rfl ?_
  refine v_isub dX9_goesOn_5 ?_
  refine v_istore_n (lv' := [(1, .int ((m0 111 15) - 1)), (0, .ref (eAd E 111))]) dX9_goesOn_6 rfl (Nat.le_of_ble_eq_true rfl) rfl ?_
  refine v_aload_n dX9_goesOn_7 rfl 1 rfl ?_
  refine gf_X9_passed kc111 q833 dX9_goesOn_8 ?_
  refine v_iload_n dX9_goesOn_11 rfl 0 rfl ?_
  refine v_gd (fun g12 => ?_)
  refine v_iald kc120 rfl g12 dX9_goesOn_12 ?_
  refine v_istore_n (lv' := [(2, .int (m0 120 (ix ((m0 111 15) - 1)))), (1, .int ((m0 111 15) - 1)), (0, .ref (eAd E 111))]) dX9_goesOn_13 rfl (Nat.le_of_ble_eq_true rfl) rfl ?_
  refine v_sub [2, 1, 0] rfl ?_
  exact w_X9_goesOn_14 l E N N m0 ((m0 111 15) - 1) (m0 120 (ix ((m0 111 15) - 1)))

def rm_X9_find : Room := { frames := 6, cells := 0, slots := 0, locals := 133 }
def f_X9_find_77 (N : Nat) (rec_12 : Mem → Option (Mem × Int32)) (m0 : Mem) : Option (Mem × Int32) := (rec_12 m0)
theorem w_X9_find_77 (l : Launch) (E : EnvT) (N : Nat) (rec_12 : Mem → Option (Mem × Int32)) (hrec_12 : ∀ (m0 : Mem), V l E RX9 cX9_find 2 (some .int) (rm_X9_find) 0 0 (Zm E) rvI (rec_12 m0) m0 12 [(0, .ref (eAd E 111))] []) (m0 : Mem) : V l E RX9 cX9_find 2 (some .int) (rm_X9_find) 0 0 (Zm E) rvI (f_X9_find_77 N rec_12 m0) m0 77 [(0, .ref (eAd E 111))] [] := by
  unfold f_X9_find_77
  refine v_goto (tgt := 12) dX9_find_77 (by decide) ?_
  exact hrec_12 m0
def f_X9_find_60 (N : Nat) (rec_12 : Mem → Option (Mem × Int32)) (m0 : Mem) : Option (Mem × Int32) := bm (f_X9_goesOn N m0) (fun m1 r1 => if r1 = 0 then (lm (up m1 111 15 ((m1 111 15) - 1)) (fun m2 => (f_X9_find_77 N rec_12 m2))) else (f_X9_find_77 N rec_12 m1))
theorem w_X9_find_60 (l : Launch) (E : EnvT) (N : Nat) (rec_12 : Mem → Option (Mem × Int32)) (hrec_12 : ∀ (m0 : Mem), V l E RX9 cX9_find 2 (some .int) (rm_X9_find) 0 0 (Zm E) rvI (rec_12 m0) m0 12 [(0, .ref (eAd E 111))] []) (m0 : Mem) : V l E RX9 cX9_find 2 (some .int) (rm_X9_find) 0 0 (Zm E) rvI (f_X9_find_60 N rec_12 m0) m0 60 [(0, .ref (eAd E 111))] [] := by
  unfold f_X9_find_60
  refine v_aload_n dX9_find_60 rfl 0 rfl ?_
  refine v_callVi (q := 111) (ci := 9) (C := RX9) (T := TX9) (NN := 24) (As := []) (rest := []) (c_X9_goesOn l E N m0) kv_X9_goesOn kc111 (by decide) rfl q1035 ⟨rfl, rfl⟩ ⟨Nat.le_of_ble_eq_true rfl, Nat.le_of_ble_eq_true rfl⟩ ⟨Nat.zero_le _, Nat.zero_le _⟩ rfl rfl (Nat.le_of_ble_eq_true rfl) dX9_find_61 (fun m1 r1 => ?_)
  refine v_if_ne (tgt := 77) dX9_find_64 (by decide) ?_ ?_
  · exact w_X9_find_77 l E N rec_12 hrec_12 m1
  · refine v_aload_n dX9_find_67 rfl 0 rfl ?_
    refine v_dup dX9_find_68 rfl ?_
    refine gf_X9_deep kc111 q837 dX9_find_69 ?_
    refine v_iconst (v := 1) dX9_find_72 rfl ?_
    refine v_isub dX9_find_73 ?_
    refine pf_X9_deep kc111 q837 dX9_find_74 (fun m2 => ?_)
    exact w_X9_find_77 l E N rec_12 hrec_12 m2
def f_X9_find_12b (N : Nat) (rec_12 : Mem → Option (Mem × Int32)) (m0 : Mem) : Option (Mem × Int32) := if (m0 111 15) ≤ 0 then (some (m0, (-10001))) else (gd (inR ((m0 111 15) - 1) 20) (gd (inR ((m0 111 15) - 1) 20) (if (m0 121 (ix ((m0 111 15) - 1))) = (m0 111 10) then (bm (f_X9_ofNode m0 (m0 120 (ix ((m0 111 15) - 1))) 1) (fun m1 r1 => if r1 = 0 then (f_X9_find_60 N rec_12 m1) else (some (m1, (m0 120 (ix ((m0 111 15) - 1))))))) else (f_X9_find_60 N rec_12 m0))))
def f_X9_find_12 (N : Nat) : Nat → Mem → Option (Mem × Int32)
  | 0 => fun _ => none
  | n + 1 => f_X9_find_12b N (f_X9_find_12 N n)
theorem w_X9_find_12b (l : Launch) (E : EnvT) (N : Nat) (rec_12 : Mem → Option (Mem × Int32)) (hrec_12 : ∀ (m0 : Mem), V l E RX9 cX9_find 2 (some .int) (rm_X9_find) 0 0 (Zm E) rvI (rec_12 m0) m0 12 [(0, .ref (eAd E 111))] []) (m0 : Mem) : V l E RX9 cX9_find 2 (some .int) (rm_X9_find) 0 0 (Zm E) rvI (f_X9_find_12b N rec_12 m0) m0 12 [(0, .ref (eAd E 111))] [] := by
  unfold f_X9_find_12b
  refine v_aload_n dX9_find_12 rfl 0 rfl ?_
  refine gf_X9_deep kc111 q837 dX9_find_13 ?_
  refine v_if_le (tgt := 80) dX9_find_16 (by decide) ?_ ?_
  · refine v_sipush (v := (-10001)) dX9_find_80 rfl ?_
    exact v_iret dX9_find_83
  · refine v_aload_n dX9_find_19 rfl 0 rfl ?_
    refine gf_X9_passed kc111 q833 dX9_find_20 ?_
    refine v_aload_n dX9_find_23 rfl 0 rfl ?_
    refine gf_X9_deep kc111 q837 dX9_find_24 ?_
    refine v_iconst (v := 1) dX9_find_27 rfl ?_
    refine v_isub dX9_find_28 ?_
    refine v_gd (fun g29 => ?_)
    refine v_iald kc120 rfl g29 dX9_find_29 ?_
    refine v_istore_n (lv' := [(1, .int (m0 120 (ix ((m0 111 15) - 1)))), (0, .ref (eAd E 111))]) dX9_find_30 rfl (Nat.le_of_ble_eq_true rfl) rfl ?_
    refine v_aload_n dX9_find_31 rfl 1 rfl ?_
    refine gf_X9_gone kc111 q834 dX9_find_32 ?_
    refine v_aload_n dX9_find_35 rfl 1 rfl ?_
    refine gf_X9_deep kc111 q837 dX9_find_36 ?_
    refine v_iconst (v := 1) dX9_find_39 rfl ?_
    refine v_isub dX9_find_40 ?_
    refine v_gd (fun g41 => ?_)
    refine v_iald kc121 rfl g41 dX9_find_41 ?_
    refine v_aload_n dX9_find_42 rfl 1 rfl ?_
    refine gf_X9_words kc111 q832 dX9_find_43 ?_
    refine v_icmp_ne (tgt := 60) dX9_find_46 (by decide) ?_ ?_
    · refine v_sub [1] rfl ?_
      exact w_X9_find_60 l E N rec_12 hrec_12 m0
    · refine v_aload_n dX9_find_49 rfl 1 rfl ?_
      refine v_iload_n dX9_find_50 rfl 0 rfl ?_
      refine v_iconst (v := 1) dX9_find_51 rfl ?_
      refine v_callVi (q := 111) (ci := 9) (C := RX9) (T := TX9) (NN := 24) (As := [.int (m0 120 (ix ((m0 111 15) - 1))), .int 1]) (rest := []) (c_X9_ofNode l E m0 (m0 120 (ix ((m0 111 15) - 1))) 1) kv_X9_ofNode kc111 (by decide) rfl q915 ⟨rfl, rfl⟩ ⟨Nat.le_of_ble_eq_true rfl, Nat.le_of_ble_eq_true rfl⟩ ⟨Nat.zero_le _, Nat.zero_le _⟩ rfl rfl (Nat.le_of_ble_eq_true rfl) dX9_find_52 (fun m1 r1 => ?_)
      refine v_if_eq (tgt := 60) dX9_find_55 (by decide) ?_ ?_
      · refine v_sub [1] rfl ?_
        exact w_X9_find_60 l E N rec_12 hrec_12 m1
      · refine v_iload_n dX9_find_58 rfl 0 rfl ?_
        exact v_iret dX9_find_59
theorem w_X9_find_12 (l : Launch) (E : EnvT) (N : Nat) : ∀ (n : Nat) (m0 : Mem), V l E RX9 cX9_find 2 (some .int) (rm_X9_find) 0 0 (Zm E) rvI (f_X9_find_12 N n m0) m0 12 [(0, .ref (eAd E 111))] [] := by
  intro n
  induction n with
  | zero => intros; exact v_none
  | succ n ih => exact w_X9_find_12b l E N _ ih
def f_X9_find (N : Nat) (m0 : Mem) : Option (Mem × Int32) := lm (up m0 111 15 0) (fun m1 => bm (f_X9_pass m1 0 0 0) (fun m2 _ => (f_X9_find_12 N N m2)))
theorem c_X9_find (l : Launch) (E : EnvT) (N : Nat) (m0 : Mem) : CT l E yX9_find cX9_find 2 (some .int) (rm_X9_find) rvI (f_X9_find N m0) [.ref (eAd E 111)] m0 := by
  refine CT.ofV (own := RX9) (by decide) rfl (Nat.le_of_ble_eq_true rfl) ?_
  show V l E RX9 cX9_find 2 (some .int) (rm_X9_find) 0 0 (Zm E) rvI _ m0 0 [(0, .ref (eAd E 111))] []
  unfold f_X9_find
  refine v_aload_n dX9_find_0 rfl 0 rfl ?_
  refine v_iconst (v := 0) dX9_find_1 rfl ?_
  refine pf_X9_deep kc111 q837 dX9_find_2 (fun m1 => ?_)
  refine v_aload_n dX9_find_5 rfl 0 rfl ?_
  refine v_iconst (v := 0) dX9_find_6 rfl ?_
  refine v_iconst (v := 0) dX9_find_7 rfl ?_
  refine v_iconst (v := 0) dX9_find_8 rfl ?_
  refine v_callVv (q := 111) (ci := 9) (C := RX9) (T := TX9) (NN := 24) (As := [.int 0, .int 0, .int 0]) (rest := []) (c_X9_pass l E m1 0 0 0) kv_X9_pass kc111 (by decide) rfl q1031 ⟨rfl, rfl⟩ ⟨Nat.le_of_ble_eq_true rfl, Nat.le_of_ble_eq_true rfl⟩ ⟨Nat.zero_le _, Nat.zero_le _⟩ rfl rfl (Nat.le_of_ble_eq_true rfl) dX9_find_9 (fun m2 _ => ?_)
  exact w_X9_find_12 l E N N m2

def rm_X9_addFault : Room := { frames := 0, cells := 0, slots := 0, locals := 0 }
def f_X9_addFault_44 (m0 : Mem) (x1 : Int32) (s1 : Int32) (s2 : Int32) (s3 : Int32) : Option (Mem × Unit) := gd (inR s1 347) (lm (up m0 112 (ix s1) (s2 ||| s3)) (fun m1 => gd (inR 12 347) (if (m1 112 (ix 12)) = 4 then (gd (inR 26 347) (lm (up m1 112 (ix 26) (-350)) (fun m4 => gd (inR 1 347) (gd (inR 1 347) (lm (up m4 112 (ix 1) ((m4 112 (ix 1)) ||| 8)) (fun m5 => some (m5, ()))))))) else (gd (inR 12 347) (gd (inR (23 + (m1 112 (ix 12))) 347) (lm (up m1 112 (ix (23 + (m1 112 (ix 12)))) x1) (fun m2 => gd (inR 12 347) (gd (inR 12 347) (lm (up m2 112 (ix 12) ((m2 112 (ix 12)) + 1)) (fun m3 => some (m3, ())))))))))))
theorem w_X9_addFault_44 (l : Launch) (E : EnvT) (m0 : Mem) (x1 : Int32) (s1 : Int32) (s2 : Int32) (s3 : Int32) : V l E RX9 cX9_addFault 3 none (rm_X9_addFault) 0 0 (Zm E) rvV (f_X9_addFault_44 m0 x1 s1 s2 s3) m0 44 [(0, .ref (eAd E 111)), (1, .int x1)] [.int s3, .int s2, .int s1, .ref (eAd E 112)] := by
  unfold f_X9_addFault_44
  refine v_ior dX9_addFault_44 ?_
  refine v_gd (fun g45 => ?_)
  refine v_iast kc112 rfl g45 dX9_addFault_45 (fun m1 => ?_)
  refine v_aload_n dX9_addFault_46 rfl 0 rfl ?_
  refine gf_X9_now kc111 q822 dX9_addFault_47 ?_
  refine v_bipush (v := 12) dX9_addFault_50 rfl ?_
  refine v_gd (fun g52 => ?_)
  refine v_iald kc112 rfl g52 dX9_addFault_52 ?_
  refine v_iconst (v := 4) dX9_addFault_53 rfl ?_
  refine v_icmp_ne (tgt := 81) dX9_addFault_54 (by decide) ?_ ?_
  · refine v_aload_n dX9_addFault_81 rfl 0 rfl ?_
    refine gf_X9_now kc111 q822 dX9_addFault_82 ?_
    refine v_bipush (v := 23) dX9_addFault_85 rfl ?_
    refine v_aload_n dX9_addFault_87 rfl 0 rfl ?_
    refine gf_X9_now kc111 q822 dX9_addFault_88 ?_
    refine v_bipush (v := 12) dX9_addFault_91 rfl ?_
    refine v_gd (fun g93 => ?_)
    refine v_iald kc112 rfl g93 dX9_addFault_93 ?_
    refine v_iadd dX9_addFault_94 ?_
    refine v_iload_n dX9_addFault_95 rfl 1 rfl ?_
    refine v_gd (fun g96 => ?_)
    refine v_iast kc112 rfl g96 dX9_addFault_96 (fun m2 => ?_)
    refine v_aload_n dX9_addFault_97 rfl 0 rfl ?_
    refine gf_X9_now kc111 q822 dX9_addFault_98 ?_
    refine v_bipush (v := 12) dX9_addFault_101 rfl ?_
    refine v_dup2 dX9_addFault_103 rfl rfl ?_
    refine v_gd (fun g104 => ?_)
    refine v_iald kc112 rfl g104 dX9_addFault_104 ?_
    refine v_iconst (v := 1) dX9_addFault_105 rfl ?_
    refine v_iadd dX9_addFault_106 ?_
    refine v_gd (fun g107 => ?_)
    refine v_iast kc112 rfl g107 dX9_addFault_107 (fun m3 => ?_)
    exact v_vret dX9_addFault_108
  · refine v_aload_n dX9_addFault_57 rfl 0 rfl ?_
    refine gf_X9_now kc111 q822 dX9_addFault_58 ?_
    refine v_bipush (v := 26) dX9_addFault_61 rfl ?_
    refine v_sipush (v := (-350)) dX9_addFault_63 rfl ?_
    refine v_gd (fun g66 => ?_)
    refine v_iast kc112 rfl g66 dX9_addFault_66 (fun m4 => ?_)
    refine v_aload_n dX9_addFault_67 rfl 0 rfl ?_
    refine gf_X9_now kc111 q822 dX9_addFault_68 ?_
    refine v_iconst (v := 1) dX9_addFault_71 rfl ?_
    refine v_dup2 dX9_addFault_72 rfl rfl ?_
    refine v_gd (fun g73 => ?_)
    refine v_iald kc112 rfl g73 dX9_addFault_73 ?_
    refine v_bipush (v := 8) dX9_addFault_74 rfl ?_
    refine v_ior dX9_addFault_76 ?_
    refine v_gd (fun g77 => ?_)
    refine v_iast kc112 rfl g77 dX9_addFault_77 (fun m5 => ?_)
    refine v_goto (tgt := 108) dX9_addFault_78 (by decide) ?_
    exact v_vret dX9_addFault_108
def f_X9_addFault (m0 : Mem) (x1 : Int32) : Option (Mem × Unit) := gd (inR 1 347) (if ((-x1) / 100) = 1 then (f_X9_addFault_44 m0 x1 1 (m0 112 (ix 1)) 32) else (if ((-x1) / 100) = 2 then (f_X9_addFault_44 m0 x1 1 (m0 112 (ix 1)) 16) else (if ((-x1) / 100) = 3 then (f_X9_addFault_44 m0 x1 1 (m0 112 (ix 1)) 8) else (f_X9_addFault_44 m0 x1 1 (m0 112 (ix 1)) 4))))
theorem c_X9_addFault (l : Launch) (E : EnvT) (m0 : Mem) (x1 : Int32) : CT l E yX9_addFault cX9_addFault 3 none (rm_X9_addFault) rvV (f_X9_addFault m0 x1) [.ref (eAd E 111), .int x1] m0 := by
  refine CT.ofV (own := RX9) (by decide) rfl (Nat.le_of_ble_eq_true rfl) ?_
  show V l E RX9 cX9_addFault 3 none (rm_X9_addFault) 0 0 (Zm E) rvV _ m0 0 [(0, .ref (eAd E 111)), (1, .int x1)] []
  unfold f_X9_addFault
  refine v_iload_n dX9_addFault_0 rfl 1 rfl ?_
  refine v_ineg dX9_addFault_1 ?_
  refine v_bipush (v := 100) dX9_addFault_2 rfl ?_
  refine v_idiv dX9_addFault_4 (by decide) ?_
  refine v_istore_n (lv' := [(2, .int ((-x1) / 100)), (0, .ref (eAd E 111)), (1, .int x1)]) dX9_addFault_5 rfl (Nat.le_of_ble_eq_true rfl) rfl ?_
  refine v_aload_n dX9_addFault_6 rfl 1 rfl ?_
  refine gf_X9_now kc111 q822 dX9_addFault_7 ?_
  refine v_iconst (v := 1) dX9_addFault_10 rfl ?_
  refine v_dup2 dX9_addFault_11 rfl rfl ?_
  refine v_gd (fun g12 => ?_)
  refine v_iald kc112 rfl g12 dX9_addFault_12 ?_
  refine v_iload_n dX9_addFault_13 rfl 0 rfl ?_
  refine v_iconst (v := 1) dX9_addFault_14 rfl ?_
  refine v_icmp_ne (tgt := 23) dX9_addFault_15 (by decide) ?_ ?_
  · refine v_iload_n dX9_addFault_23 rfl 0 rfl ?_
    refine v_iconst (v := 2) dX9_addFault_24 rfl ?_
    refine v_icmp_ne (tgt := 33) dX9_addFault_25 (by decide) ?_ ?_
    · refine v_iload_n dX9_addFault_33 rfl 0 rfl ?_
      refine v_iconst (v := 3) dX9_addFault_34 rfl ?_
      refine v_icmp_ne (tgt := 43) dX9_addFault_35 (by decide) ?_ ?_
      · refine v_iconst (v := 4) dX9_addFault_43 rfl ?_
        refine v_sub [1, 2] rfl ?_
        exact w_X9_addFault_44 l E m0 x1 1 (m0 112 (ix 1)) 4
      · refine v_bipush (v := 8) dX9_addFault_38 rfl ?_
        refine v_goto (tgt := 44) dX9_addFault_40 (by decide) ?_
        refine v_sub [1, 2] rfl ?_
        exact w_X9_addFault_44 l E m0 x1 1 (m0 112 (ix 1)) 8
    · refine v_bipush (v := 16) dX9_addFault_28 rfl ?_
      refine v_goto (tgt := 44) dX9_addFault_30 (by decide) ?_
      refine v_sub [1, 2] rfl ?_
      exact w_X9_addFault_44 l E m0 x1 1 (m0 112 (ix 1)) 16
  · refine v_bipush (v := 32) dX9_addFault_18 rfl ?_
    refine v_goto (tgt := 44) dX9_addFault_20 (by decide) ?_
    refine v_sub [1, 2] rfl ?_
    exact w_X9_addFault_44 l E m0 x1 1 (m0 112 (ix 1)) 32

def rm_X9_addAnswer : Room := { frames := 1, cells := 0, slots := 0, locals := 22 }
def f_X9_addAnswer (m0 : Mem) (x1 : Int32) : Option (Mem × Unit) := gd (inR 11 347) (if (m0 112 (ix 11)) = 6 then (bm (f_X9_addFault m0 (-430)) (fun m3 _ => some (m3, ()))) else (gd (inR 11 347) (gd (inR (17 + (m0 112 (ix 11))) 347) (lm (up m0 112 (ix (17 + (m0 112 (ix 11)))) x1) (fun m1 => gd (inR 11 347) (gd (inR 11 347) (lm (up m1 112 (ix 11) ((m1 112 (ix 11)) + 1)) (fun m2 => some (m2, ())))))))))
theorem c_X9_addAnswer (l : Launch) (E : EnvT) (m0 : Mem) (x1 : Int32) : CT l E yX9_addAnswer cX9_addAnswer 2 none (rm_X9_addAnswer) rvV (f_X9_addAnswer m0 x1) [.ref (eAd E 111), .int x1] m0 := by
  refine CT.ofV (own := RX9) (by decide) rfl (Nat.le_of_ble_eq_true rfl) ?_
  show V l E RX9 cX9_addAnswer 2 none (rm_X9_addAnswer) 0 0 (Zm E) rvV _ m0 0 [(0, .ref (eAd E 111)), (1, .int x1)] []
  unfold f_X9_addAnswer
  refine v_aload_n dX9_addAnswer_0 rfl 0 rfl ?_
  refine gf_X9_now kc111 q822 dX9_addAnswer_1 ?_
  refine v_bipush (v := 11) dX9_addAnswer_4 rfl ?_
  refine v_gd (fun g6 => ?_)
  refine v_iald kc112 rfl g6 dX9_addAnswer_6 ?_
  refine v_bipush (v := 6) dX9_addAnswer_7 rfl ?_
  refine v_icmp_ne (tgt := 22) dX9_addAnswer_9 (by decide) ?_ ?_
  · refine v_aload_n dX9_addAnswer_22 rfl 0 rfl ?_
    refine gf_X9_now kc111 q822 dX9_addAnswer_23 ?_
    refine v_bipush (v := 17) dX9_addAnswer_26 rfl ?_
    refine v_aload_n dX9_addAnswer_28 rfl 0 rfl ?_
    refine gf_X9_now kc111 q822 dX9_addAnswer_29 ?_
    refine v_bipush (v := 11) dX9_addAnswer_32 rfl ?_
    refine v_gd (fun g34 => ?_)
    refine v_iald kc112 rfl g34 dX9_addAnswer_34 ?_
    refine v_iadd dX9_addAnswer_35 ?_
    refine v_iload_n dX9_addAnswer_36 rfl 1 rfl ?_
    refine v_gd (fun g37 => ?_)
    refine v_iast kc112 rfl g37 dX9_addAnswer_37 (fun m1 => ?_)
    refine v_aload_n dX9_addAnswer_38 rfl 0 rfl ?_
    refine gf_X9_now kc111 q822 dX9_addAnswer_39 ?_
    refine v_bipush (v := 11) dX9_addAnswer_42 rfl ?_
    refine v_dup2 dX9_addAnswer_44 rfl rfl ?_
    refine v_gd (fun g45 => ?_)
    refine v_iald kc112 rfl g45 dX9_addAnswer_45 ?_
    refine v_iconst (v := 1) dX9_addAnswer_46 rfl ?_
    refine v_iadd dX9_addAnswer_47 ?_
    refine v_gd (fun g48 => ?_)
    refine v_iast kc112 rfl g48 dX9_addAnswer_48 (fun m2 => ?_)
    exact v_vret dX9_addAnswer_49
  · refine v_aload_n dX9_addAnswer_12 rfl 0 rfl ?_
    refine v_sipush (v := (-430)) dX9_addAnswer_13 rfl ?_
    refine v_callVv (q := 111) (ci := 9) (C := RX9) (T := TX9) (NN := 24) (As := [.int (-430)]) (rest := []) (c_X9_addFault l E m0 (-430)) kv_X9_addFault kc111 (by decide) rfl q1055 ⟨rfl, rfl⟩ ⟨Nat.le_of_ble_eq_true rfl, Nat.le_of_ble_eq_true rfl⟩ ⟨Nat.zero_le _, Nat.zero_le _⟩ rfl rfl (Nat.le_of_ble_eq_true rfl) dX9_addAnswer_16 (fun m3 _ => ?_)
    refine v_goto (tgt := 49) dX9_addAnswer_19 (by decide) ?_
    exact v_vret dX9_addAnswer_49

def rm_X9_sum : Room := { frames := 0, cells := 0, slots := 0, locals := 0 }
def f_X9_sum_80 (m0 : Mem) (s0 : Int32) (s1 : Int32) (s2 : Int32) : Option (Mem × Int32) := gd (inR 3 347) (if ((s0 + (s1 + s2)) &&& (m0 112 (ix 3))) = 0 then (some (m0, ((s0 + (s1 + s2)) + 0))) else (some (m0, ((s0 + (s1 + s2)) + 64))))
theorem w_X9_sum_80 (l : Launch) (E : EnvT) (m0 : Mem) (s0 : Int32) (s1 : Int32) (s2 : Int32) : V l E RX9 cX9_sum 2 (some .int) (rm_X9_sum) 0 0 (Zm E) rvI (f_X9_sum_80 m0 s0 s1 s2) m0 80 [(0, .ref (eAd E 111))] [.int s2, .int s1, .int s0] := by
  unfold f_X9_sum_80
  refine v_iadd dX9_sum_80 ?_
  refine v_iadd dX9_sum_81 ?_
  refine v_istore_n (lv' := [(1, .int (s0 + (s1 + s2))), (0, .ref (eAd E 111))]) dX9_sum_82 rfl (Nat.le_of_ble_eq_true rfl) rfl ?_
  refine v_iload_n dX9_sum_83 rfl 0 rfl ?_
  refine v_iload_n dX9_sum_84 rfl 0 rfl ?_
  refine v_aload_n dX9_sum_85 rfl 1 rfl ?_
  refine gf_X9_now kc111 q822 dX9_sum_86 ?_
  refine v_iconst (v := 3) dX9_sum_89 rfl ?_
  refine v_gd (fun g90 => ?_)
  refine v_iald kc112 rfl g90 dX9_sum_90 ?_
  refine v_iand dX9_sum_91 ?_
  refine v_if_eq (tgt := 100) dX9_sum_92 (by decide) ?_ ?_
  · refine v_iconst (v := 0) dX9_sum_100 rfl ?_
    refine v_iadd dX9_sum_101 ?_
    exact v_iret dX9_sum_102
  · refine v_bipush (v := 64) dX9_sum_95 rfl ?_
    refine v_goto (tgt := 101) dX9_sum_97 (by decide) ?_
    refine v_iadd dX9_sum_101 ?_
    exact v_iret dX9_sum_102
def f_X9_sum_56 (m0 : Mem) (s0 : Int32) (s1 : Int32) : Option (Mem × Int32) := gd (inR 5 347) (gd (inR 8 347) (if ((m0 112 (ix 5)) &&& (m0 112 (ix 8))) = 0 then (f_X9_sum_80 m0 s0 s1 0) else (f_X9_sum_80 m0 s0 s1 128)))
theorem w_X9_sum_56 (l : Launch) (E : EnvT) (m0 : Mem) (s0 : Int32) (s1 : Int32) : V l E RX9 cX9_sum 2 (some .int) (rm_X9_sum) 0 0 (Zm E) rvI (f_X9_sum_56 m0 s0 s1) m0 56 [(0, .ref (eAd E 111))] [.int s1, .int s0] := by
  unfold f_X9_sum_56
  refine v_aload_n dX9_sum_56 rfl 0 rfl ?_
  refine gf_X9_now kc111 q822 dX9_sum_57 ?_
  refine v_iconst (v := 5) dX9_sum_60 rfl ?_
  refine v_gd (fun g61 => ?_)
  refine v_iald kc112 rfl g61 dX9_sum_61 ?_
  refine v_aload_n dX9_sum_62 rfl 0 rfl ?_
  refine gf_X9_now kc111 q822 dX9_sum_63 ?_
  refine v_bipush (v := 8) dX9_sum_66 rfl ?_
  refine v_gd (fun g68 => ?_)
  refine v_iald kc112 rfl g68 dX9_sum_68 ?_
  refine v_iand dX9_sum_69 ?_
  refine v_if_eq (tgt := 79) dX9_sum_70 (by decide) ?_ ?_
  · refine v_iconst (v := 0) dX9_sum_79 rfl ?_
    exact w_X9_sum_80 l E m0 s0 s1 0
  · refine v_sipush (v := 128) dX9_sum_73 rfl ?_
    refine v_goto (tgt := 80) dX9_sum_76 (by decide) ?_
    exact w_X9_sum_80 l E m0 s0 s1 128
def f_X9_sum_31 (m0 : Mem) (s0 : Int32) (s1 : Int32) : Option (Mem × Int32) := gd (inR 1 347) (gd (inR 2 347) (if ((m0 112 (ix 1)) &&& (m0 112 (ix 2))) = 0 then (f_X9_sum_56 m0 (s0 + s1) 0) else (f_X9_sum_56 m0 (s0 + s1) 32)))
theorem w_X9_sum_31 (l : Launch) (E : EnvT) (m0 : Mem) (s0 : Int32) (s1 : Int32) : V l E RX9 cX9_sum 2 (some .int) (rm_X9_sum) 0 0 (Zm E) rvI (f_X9_sum_31 m0 s0 s1) m0 31 [(0, .ref (eAd E 111))] [.int s1, .int s0] := by
  unfold f_X9_sum_31
  refine v_iadd dX9_sum_31 ?_
  refine v_istore_n (lv' := [(1, .int (s0 + s1)), (0, .ref (eAd E 111))]) dX9_sum_32 rfl (Nat.le_of_ble_eq_true rfl) rfl ?_
  refine v_iload_n dX9_sum_33 rfl 0 rfl ?_
  refine v_aload_n dX9_sum_34 rfl 1 rfl ?_
  refine gf_X9_now kc111 q822 dX9_sum_35 ?_
  refine v_iconst (v := 1) dX9_sum_38 rfl ?_
  refine v_gd (fun g39 => ?_)
  refine v_iald kc112 rfl g39 dX9_sum_39 ?_
  refine v_aload_n dX9_sum_40 rfl 1 rfl ?_
  refine gf_X9_now kc111 q822 dX9_sum_41 ?_
  refine v_iconst (v := 2) dX9_sum_44 rfl ?_
  refine v_gd (fun g45 => ?_)
  refine v_iald kc112 rfl g45 dX9_sum_45 ?_
  refine v_iand dX9_sum_46 ?_
  refine v_if_eq (tgt := 55) dX9_sum_47 (by decide) ?_ ?_
  · refine v_iconst (v := 0) dX9_sum_55 rfl ?_
    refine v_sub [1] rfl ?_
    exact w_X9_sum_56 l E m0 (s0 + s1) 0
  · refine v_bipush (v := 32) dX9_sum_50 rfl ?_
    refine v_goto (tgt := 56) dX9_sum_52 (by decide) ?_
    refine v_sub [1] rfl ?_
    exact w_X9_sum_56 l E m0 (s0 + s1) 32
def f_X9_sum_15 (m0 : Mem) (s0 : Int32) : Option (Mem × Int32) := gd (inR 11 347) (if (m0 112 (ix 11)) ≤ 0 then (f_X9_sum_31 m0 s0 0) else (f_X9_sum_31 m0 s0 16))
theorem w_X9_sum_15 (l : Launch) (E : EnvT) (m0 : Mem) (s0 : Int32) : V l E RX9 cX9_sum 2 (some .int) (rm_X9_sum) 0 0 (Zm E) rvI (f_X9_sum_15 m0 s0) m0 15 [(0, .ref (eAd E 111))] [.int s0] := by
  unfold f_X9_sum_15
  refine v_aload_n dX9_sum_15 rfl 0 rfl ?_
  refine gf_X9_now kc111 q822 dX9_sum_16 ?_
  refine v_bipush (v := 11) dX9_sum_19 rfl ?_
  refine v_gd (fun g21 => ?_)
  refine v_iald kc112 rfl g21 dX9_sum_21 ?_
  refine v_if_le (tgt := 30) dX9_sum_22 (by decide) ?_ ?_
  · refine v_iconst (v := 0) dX9_sum_30 rfl ?_
    exact w_X9_sum_31 l E m0 s0 0
  · refine v_bipush (v := 16) dX9_sum_25 rfl ?_
    refine v_goto (tgt := 31) dX9_sum_27 (by decide) ?_
    exact w_X9_sum_31 l E m0 s0 16
def f_X9_sum (m0 : Mem) : Option (Mem × Int32) := gd (inR 12 347) (if (m0 112 (ix 12)) ≤ 0 then (f_X9_sum_15 m0 0) else (f_X9_sum_15 m0 4))
theorem c_X9_sum (l : Launch) (E : EnvT) (m0 : Mem) : CT l E yX9_sum cX9_sum 2 (some .int) (rm_X9_sum) rvI (f_X9_sum m0) [.ref (eAd E 111)] m0 := by
  refine CT.ofV (own := RX9) (by decide) rfl (Nat.le_of_ble_eq_true rfl) ?_
  show V l E RX9 cX9_sum 2 (some .int) (rm_X9_sum) 0 0 (Zm E) rvI _ m0 0 [(0, .ref (eAd E 111))] []
  unfold f_X9_sum
  refine v_aload_n dX9_sum_0 rfl 0 rfl ?_
  refine gf_X9_now kc111 q822 dX9_sum_1 ?_
  refine v_bipush (v := 12) dX9_sum_4 rfl ?_
  refine v_gd (fun g6 => ?_)
  refine v_iald kc112 rfl g6 dX9_sum_6 ?_
  refine v_if_le (tgt := 14) dX9_sum_7 (by decide) ?_ ?_
  · refine v_iconst (v := 0) dX9_sum_14 rfl ?_
    exact w_X9_sum_15 l E m0 0
  · refine v_iconst (v := 4) dX9_sum_10 rfl ?_
    refine v_goto (tgt := 15) dX9_sum_11 (by decide) ?_
    exact w_X9_sum_15 l E m0 4

def rm_X9_here : Room := { frames := 0, cells := 0, slots := 0, locals := 0 }
def f_X9_here (m0 : Mem) : Option (Mem × Int32) := if (m0 111 6) ≤ (m0 111 16) then (some (m0, (-1))) else (gd (inR (m0 111 16) 100) (some (m0, (m0 116 (ix (m0 111 16))))))
theorem c_X9_here (l : Launch) (E : EnvT) (m0 : Mem) : CT l E yX9_here cX9_here 1 (some .int) (rm_X9_here) rvI (f_X9_here m0) [.ref (eAd E 111)] m0 := by
  refine CT.ofV (own := RX9) (by decide) rfl (Nat.le_of_ble_eq_true rfl) ?_
  show V l E RX9 cX9_here 1 (some .int) (rm_X9_here) 0 0 (Zm E) rvI _ m0 0 [(0, .ref (eAd E 111))] []
  unfold f_X9_here
  refine v_aload_n dX9_here_0 rfl 0 rfl ?_
  refine gf_X9_at kc111 q838 dX9_here_1 ?_
  refine v_aload_n dX9_here_4 rfl 0 rfl ?_
  refine gf_X9_typed kc111 q828 dX9_here_5 ?_
  refine v_icmp_ge (tgt := 23) dX9_here_8 (by decide) ?_ ?_
  · refine v_iconst (v := (-1)) dX9_here_23 rfl ?_
    exact v_iret dX9_here_24
  · refine v_aload_n dX9_here_11 rfl 0 rfl ?_
    refine gf_X9_text kc111 q827 dX9_here_12 ?_
    refine v_aload_n dX9_here_15 rfl 0 rfl ?_
    refine gf_X9_at kc111 q838 dX9_here_16 ?_
    refine v_gd (fun g19 => ?_)
    refine v_iald kc116 rfl g19 dX9_here_19 ?_
    refine v_goto (tgt := 24) dX9_here_20 (by decide) ?_
    exact v_iret dX9_here_24

def rm_X9_isFigure : Room := { frames := 1, cells := 0, slots := 0, locals := 22 }
def f_X9_isFigure (m0 : Mem) : Option (Mem × Int32) := bm (f_X9_here m0) (fun m1 r1 => bm (f_X9_in m1 r1 48 57) (fun m2 r2 => gd (isB r2) (some (m2, r2))))
theorem c_X9_isFigure (l : Launch) (E : EnvT) (m0 : Mem) : CT l E yX9_isFigure cX9_isFigure 1 (some .boolean) (rm_X9_isFigure) rvI (f_X9_isFigure m0) [.ref (eAd E 111)] m0 := by
  refine CT.ofV (own := RX9) (by decide) rfl (Nat.le_of_ble_eq_true rfl) ?_
  show V l E RX9 cX9_isFigure 1 (some .boolean) (rm_X9_isFigure) 0 0 (Zm E) rvI _ m0 0 [(0, .ref (eAd E 111))] []
  unfold f_X9_isFigure
  refine v_aload_n dX9_isFigure_0 rfl 0 rfl ?_
  refine v_callVi (q := 111) (ci := 9) (C := RX9) (T := TX9) (NN := 24) (As := []) (rest := []) (c_X9_here l E m0) kv_X9_here kc111 (by decide) rfl q984 ⟨rfl, rfl⟩ ⟨Nat.le_of_ble_eq_true rfl, Nat.le_of_ble_eq_true rfl⟩ ⟨Nat.zero_le _, Nat.zero_le _⟩ rfl rfl (Nat.le_of_ble_eq_true rfl) dX9_isFigure_1 (fun m1 r1 => ?_)
  refine v_bipush (v := 48) dX9_isFigure_4 rfl ?_
  refine v_bipush (v := 57) dX9_isFigure_6 rfl ?_
  refine v_callSi (As := [.int r1, .int 48, .int 57]) (rest := []) (c_X9_in l E m1 r1 48 57) ks_X9_in q912 ⟨rfl, rfl⟩ ⟨Nat.le_of_ble_eq_true rfl, Nat.le_of_ble_eq_true rfl⟩ ⟨Nat.zero_le _, Nat.zero_le _⟩ rfl rfl (Nat.le_of_ble_eq_true rfl) dX9_isFigure_8 (fun m2 r2 => ?_)
  refine v_gd (fun g11 => ?_)
  exact v_zret g11 dX9_isFigure_11

def rm_X9_blanks : Room := { frames := 1, cells := 0, slots := 0, locals := 20 }
def f_X9_blanks_0b (N : Nat) (rec_0 : Mem → Option (Mem × Unit)) (m0 : Mem) : Option (Mem × Unit) := bm (f_X9_here m0) (fun m1 r1 => if r1 = 32 then (lm (up m1 111 16 ((m1 111 16) + 1)) (fun m2 => (rec_0 m2))) else (some (m1, ())))
def f_X9_blanks_0 (N : Nat) : Nat → Mem → Option (Mem × Unit)
  | 0 => fun _ => none
  | n + 1 => f_X9_blanks_0b N (f_X9_blanks_0 N n)
theorem w_X9_blanks_0b (l : Launch) (E : EnvT) (N : Nat) (rec_0 : Mem → Option (Mem × Unit)) (hrec_0 : ∀ (m0 : Mem), V l E RX9 cX9_blanks 1 none (rm_X9_blanks) 0 0 (Zm E) rvV (rec_0 m0) m0 0 [(0, .ref (eAd E 111))] []) (m0 : Mem) : V l E RX9 cX9_blanks 1 none (rm_X9_blanks) 0 0 (Zm E) rvV (f_X9_blanks_0b N rec_0 m0) m0 0 [(0, .ref (eAd E 111))] [] := by
  unfold f_X9_blanks_0b
  refine v_aload_n dX9_blanks_0 rfl 0 rfl ?_
  refine v_callVi (q := 111) (ci := 9) (C := RX9) (T := TX9) (NN := 24) (As := []) (rest := []) (c_X9_here l E m0) kv_X9_here kc111 (by decide) rfl q984 ⟨rfl, rfl⟩ ⟨Nat.le_of_ble_eq_true rfl, Nat.le_of_ble_eq_true rfl⟩ ⟨Nat.zero_le _, Nat.zero_le _⟩ rfl rfl (Nat.le_of_ble_eq_true rfl) dX9_blanks_1 (fun m1 r1 => ?_)
  refine v_bipush (v := 32) dX9_blanks_4 rfl ?_
  refine v_icmp_ne (tgt := 22) dX9_blanks_6 (by decide) ?_ ?_
  · exact v_vret dX9_blanks_22
  · refine v_aload_n dX9_blanks_9 rfl 0 rfl ?_
    refine v_dup dX9_blanks_10 rfl ?_
    refine gf_X9_at kc111 q838 dX9_blanks_11 ?_
    refine v_iconst (v := 1) dX9_blanks_14 rfl ?_
    refine v_iadd dX9_blanks_15 ?_
    refine pf_X9_at kc111 q838 dX9_blanks_16 (fun m2 => ?_)
    refine v_goto (tgt := 0) dX9_blanks_19 (by decide) ?_
    exact hrec_0 m2
theorem w_X9_blanks_0 (l : Launch) (E : EnvT) (N : Nat) : ∀ (n : Nat) (m0 : Mem), V l E RX9 cX9_blanks 1 none (rm_X9_blanks) 0 0 (Zm E) rvV (f_X9_blanks_0 N n m0) m0 0 [(0, .ref (eAd E 111))] [] := by
  intro n
  induction n with
  | zero => intros; exact v_none
  | succ n ih => exact w_X9_blanks_0b l E N _ ih
def f_X9_blanks (N : Nat) (m0 : Mem) : Option (Mem × Unit) := (f_X9_blanks_0 N N m0)
theorem c_X9_blanks (l : Launch) (E : EnvT) (N : Nat) (m0 : Mem) : CT l E yX9_blanks cX9_blanks 1 none (rm_X9_blanks) rvV (f_X9_blanks N m0) [.ref (eAd E 111)] m0 := by
  refine CT.ofV (own := RX9) (by decide) rfl (Nat.le_of_ble_eq_true rfl) ?_
  show V l E RX9 cX9_blanks 1 none (rm_X9_blanks) 0 0 (Zm E) rvV _ m0 0 [(0, .ref (eAd E 111))] []
  unfold f_X9_blanks
  exact w_X9_blanks_0 l E N N m0

def rm_X9_isWord : Room := { frames := 3, cells := 0, slots := 0, locals := 62 }
def f_X9_isWord_167 (N : Nat) (m0 : Mem) (s0 : Int32) : Option (Mem × Int32) := lm (up m0 111 10 ((m0 111 10) + 1)) (fun m1 => gd (isB s0) (some (m1, s0)))
theorem w_X9_isWord_167 (l : Launch) (E : EnvT) (N : Nat) (m0 : Mem) (s0 : Int32) : V l E RX9 cX9_isWord 2 (some .boolean) (rm_X9_isWord) 0 0 (Zm E) rvI (f_X9_isWord_167 N m0 s0) m0 167 [(0, .ref (eAd E 111))] [.int s0] := by
  unfold f_X9_isWord_167
  refine v_istore_n (lv' := [(1, .int s0), (0, .ref (eAd E 111))]) dX9_isWord_167 rfl (Nat.le_of_ble_eq_true rfl) rfl ?_
  refine v_aload_n dX9_isWord_168 rfl 1 rfl ?_
  refine v_dup dX9_isWord_169 rfl ?_
  refine gf_X9_words kc111 q832 dX9_isWord_170 ?_
  refine v_iconst (v := 1) dX9_isWord_173 rfl ?_
  refine v_iadd dX9_isWord_174 ?_
  refine pf_X9_words kc111 q832 dX9_isWord_175 (fun m1 => ?_)
  refine v_iload_n dX9_isWord_178 rfl 0 rfl ?_
  refine v_gd (fun g179 => ?_)
  exact v_zret g179 dX9_isWord_179
def f_X9_isWord_166 (N : Nat) (m0 : Mem) : Option (Mem × Int32) := (f_X9_isWord_167 N m0 0)
theorem w_X9_isWord_166 (l : Launch) (E : EnvT) (N : Nat) (m0 : Mem) : V l E RX9 cX9_isWord 2 (some .boolean) (rm_X9_isWord) 0 0 (Zm E) rvI (f_X9_isWord_166 N m0) m0 166 [(0, .ref (eAd E 111))] [] := by
  unfold f_X9_isWord_166
  refine v_iconst (v := 0) dX9_isWord_166 rfl ?_
  exact w_X9_isWord_167 l E N m0 0
def f_X9_isWord_162 (N : Nat) (m0 : Mem) : Option (Mem × Int32) := (f_X9_isWord_167 N m0 1)
theorem w_X9_isWord_162 (l : Launch) (E : EnvT) (N : Nat) (m0 : Mem) : V l E RX9 cX9_isWord 2 (some .boolean) (rm_X9_isWord) 0 0 (Zm E) rvI (f_X9_isWord_162 N m0) m0 162 [(0, .ref (eAd E 111))] [] := by
  unfold f_X9_isWord_162
  refine v_iconst (v := 1) dX9_isWord_162 rfl ?_
  refine v_goto (tgt := 167) dX9_isWord_163 (by decide) ?_
  exact w_X9_isWord_167 l E N m0 1
def f_X9_isWord_122 (N : Nat) (m0 : Mem) : Option (Mem × Int32) := bm (f_X9_isFigure m0) (fun m1 r1 => if r1 = 0 then (gd (inR (m1 111 10) 8) (if 0 < (m1 119 (ix (m1 111 10))) then (f_X9_isWord_162 N m1) else (gd (inR ((m1 111 16) - 1) 100) (bm (f_X9_in m1 (m1 116 (ix ((m1 111 16) - 1))) 48 57) (fun m2 r2 => if r2 = 0 then (f_X9_isWord_162 N m2) else (f_X9_isWord_166 N m2)))))) else (f_X9_isWord_166 N m1))
theorem w_X9_isWord_122 (l : Launch) (E : EnvT) (N : Nat) (m0 : Mem) : V l E RX9 cX9_isWord 2 (some .boolean) (rm_X9_isWord) 0 0 (Zm E) rvI (f_X9_isWord_122 N m0) m0 122 [(0, .ref (eAd E 111))] [] := by
  unfold f_X9_isWord_122
  refine v_aload_n dX9_isWord_122 rfl 0 rfl ?_
  refine v_callVi (q := 111) (ci := 9) (C := RX9) (T := TX9) (NN := 24) (As := []) (rest := []) (c_X9_isFigure l E m0) kv_X9_isFigure kc111 (by decide) rfl q1007 ⟨rfl, rfl⟩ ⟨Nat.le_of_ble_eq_true rfl, Nat.le_of_ble_eq_true rfl⟩ ⟨Nat.zero_le _, Nat.zero_le _⟩ rfl rfl (Nat.le_of_ble_eq_true rfl) dX9_isWord_123 (fun m1 r1 => ?_)
  refine v_if_ne (tgt := 166) dX9_isWord_126 (by decide) ?_ ?_
  · exact w_X9_isWord_166 l E N m1
  · refine v_aload_n dX9_isWord_129 rfl 0 rfl ?_
    refine gf_X9_wordFigure kc111 q831 dX9_isWord_130 ?_
    refine v_aload_n dX9_isWord_133 rfl 0 rfl ?_
    refine gf_X9_words kc111 q832 dX9_isWord_134 ?_
    refine v_gd (fun g137 => ?_)
    refine v_iald kc119 rfl g137 dX9_isWord_137 ?_
    refine v_if_gt (tgt := 162) dX9_isWord_138 (by decide) ?_ ?_
    · exact w_X9_isWord_162 l E N m1
    · refine v_aload_n dX9_isWord_141 rfl 0 rfl ?_
      refine gf_X9_text kc111 q827 dX9_isWord_142 ?_
      refine v_aload_n dX9_isWord_145 rfl 0 rfl ?_
      refine gf_X9_at kc111 q838 dX9_isWord_146 ?_
      refine v_iconst (v := 1) dX9_isWord_149 rfl ?_
      refine v_isub dX9_isWord_150 ?_
      refine v_gd (fun g151 => ?_)
      refine v_iald kc116 rfl g151 dX9_isWord_151 ?_
      refine v_bipush (v := 48) dX9_isWord_152 rfl ?_
      refine v_bipush (v := 57) dX9_isWord_154 rfl ?_
      refine v_callSi (As := [.int (m1 116 (ix ((m1 111 16) - 1))), .int 48, .int 57]) (rest := []) (c_X9_in l E m1 (m1 116 (ix ((m1 111 16) - 1))) 48 57) ks_X9_in q912 ⟨rfl, rfl⟩ ⟨Nat.le_of_ble_eq_true rfl, Nat.le_of_ble_eq_true rfl⟩ ⟨Nat.zero_le _, Nat.zero_le _⟩ rfl rfl (Nat.le_of_ble_eq_true rfl) dX9_isWord_156 (fun m2 r2 => ?_)
      refine v_if_ne (tgt := 166) dX9_isWord_159 (by decide) ?_ ?_
      · exact w_X9_isWord_166 l E N m2
      · exact w_X9_isWord_162 l E N m2
def f_X9_isWord_13b (N : Nat) (rec_13 : Mem → Option (Mem × Int32)) (m0 : Mem) : Option (Mem × Int32) := bm (f_X9_here m0) (fun m1 r1 => bm (f_X9_isLetter m1 r1) (fun m2 r2 => if r2 = 0 then (gd (inR (m2 111 10) 8) (gd (inR (m2 111 10) 8) (lm (up m2 118 (ix (m2 111 10)) ((m2 111 16) - (m2 117 (ix (m2 111 10))))) (fun m3 => gd (inR (m3 111 10) 8) (lm (up m3 119 (ix (m3 111 10)) 0) (fun m4 => gd (inR (m4 111 10) 8) (bm (f_X9_in m4 (m4 118 (ix (m4 111 10))) 1 8) (fun m5 r5 => if r5 = 0 then (some (m5, 0)) else (bm (f_X9_isFigure m5) (fun m6 r6 => if r6 = 0 then (f_X9_isWord_122 N m6) else (bm (f_X9_here m6) (fun m7 r7 => gd (inR (m6 111 10) 8) (lm (up m7 119 (ix (m6 111 10)) (r7 - 48)) (fun m8 => lm (up m8 111 16 ((m8 111 16) + 1)) (fun m9 => (f_X9_isWord_122 N m9)))))))))))))))) else (lm (up m2 111 16 ((m2 111 16) + 1)) (fun m10 => (rec_13 m10)))))
def f_X9_isWord_13 (N : Nat) : Nat → Mem → Option (Mem × Int32)
  | 0 => fun _ => none
  | n + 1 => f_X9_isWord_13b N (f_X9_isWord_13 N n)
theorem w_X9_isWord_13b (l : Launch) (E : EnvT) (N : Nat) (rec_13 : Mem → Option (Mem × Int32)) (hrec_13 : ∀ (m0 : Mem), V l E RX9 cX9_isWord 2 (some .boolean) (rm_X9_isWord) 0 0 (Zm E) rvI (rec_13 m0) m0 13 [(0, .ref (eAd E 111))] []) (m0 : Mem) : V l E RX9 cX9_isWord 2 (some .boolean) (rm_X9_isWord) 0 0 (Zm E) rvI (f_X9_isWord_13b N rec_13 m0) m0 13 [(0, .ref (eAd E 111))] [] := by
  unfold f_X9_isWord_13b
  refine v_aload_n dX9_isWord_13 rfl 0 rfl ?_
  refine v_callVi (q := 111) (ci := 9) (C := RX9) (T := TX9) (NN := 24) (As := []) (rest := []) (c_X9_here l E m0) kv_X9_here kc111 (by decide) rfl q984 ⟨rfl, rfl⟩ ⟨Nat.le_of_ble_eq_true rfl, Nat.le_of_ble_eq_true rfl⟩ ⟨Nat.zero_le _, Nat.zero_le _⟩ rfl rfl (Nat.le_of_ble_eq_true rfl) dX9_isWord_14 (fun m1 r1 => ?_)
  refine v_callSi (As := [.int r1]) (rest := []) (c_X9_isLetter l E m1 r1) ks_X9_isLetter q996 ⟨rfl, rfl⟩ ⟨Nat.le_of_ble_eq_true rfl, Nat.le_of_ble_eq_true rfl⟩ ⟨Nat.zero_le _, Nat.zero_le _⟩ rfl rfl (Nat.le_of_ble_eq_true rfl) dX9_isWord_17 (fun m2 r2 => ?_)
  refine v_if_eq (tgt := 36) dX9_isWord_20 (by decide) ?_ ?_
  · refine v_aload_n dX9_isWord_36 rfl 0 rfl ?_
    refine gf_X9_wordSize kc111 q830 dX9_isWord_37 ?_
    refine v_aload_n dX9_isWord_40 rfl 0 rfl ?_
    refine gf_X9_words kc111 q832 dX9_isWord_41 ?_
    refine v_aload_n dX9_isWord_44 rfl 0 rfl ?_
    refine gf_X9_at kc111 q838 dX9_isWord_45 ?_
    refine v_aload_n dX9_isWord_48 rfl 0 rfl ?_
    refine gf_X9_wordAt kc111 q829 dX9_isWord_49 ?_
    refine v_aload_n dX9_isWord_52 rfl 0 rfl ?_
    refine gf_X9_words kc111 q832 dX9_isWord_53 ?_
    refine v_gd (fun g56 => ?_)
    refine v_iald kc117 rfl g56 dX9_isWord_56 ?_
    refine v_isub dX9_isWord_57 ?_
    refine v_gd (fun g58 => ?_)
    refine v_iast kc118 rfl g58 dX9_isWord_58 (fun m3 => ?_)
    refine v_aload_n dX9_isWord_59 rfl 0 rfl ?_
    refine gf_X9_wordFigure kc111 q831 dX9_isWord_60 ?_
    refine v_aload_n dX9_isWord_63 rfl 0 rfl ?_
    refine gf_X9_words kc111 q832 dX9_isWord_64 ?_
    refine v_iconst (v := 0) dX9_isWord_67 rfl ?_
    refine v_gd (fun g68 => ?_)
    refine v_iast kc119 rfl g68 dX9_isWord_68 (fun m4 => ?_)
    refine v_aload_n dX9_isWord_69 rfl 0 rfl ?_
    refine gf_X9_wordSize kc111 q830 dX9_isWord_70 ?_
    refine v_aload_n dX9_isWord_73 rfl 0 rfl ?_
    refine gf_X9_words kc111 q832 dX9_isWord_74 ?_
    refine v_gd (fun g77 => ?_)
    refine v_iald kc118 rfl g77 dX9_isWord_77 ?_
    refine v_iconst (v := 1) dX9_isWord_78 rfl ?_
    refine v_bipush (v := 8) dX9_isWord_79 rfl ?_
    refine v_callSi (As := [.int (m4 118 (ix (m4 111 10))), .int 1, .int 8]) (rest := []) (c_X9_in l E m4 (m4 118 (ix (m4 111 10))) 1 8) ks_X9_in q912 ⟨rfl, rfl⟩ ⟨Nat.le_of_ble_eq_true rfl, Nat.le_of_ble_eq_true rfl⟩ ⟨Nat.zero_le _, Nat.zero_le _⟩ rfl rfl (Nat.le_of_ble_eq_true rfl) dX9_isWord_81 (fun m5 r5 => ?_)
    refine v_if_ne (tgt := 89) dX9_isWord_84 (by decide) ?_ ?_
    · refine v_aload_n dX9_isWord_89 rfl 0 rfl ?_
      refine v_callVi (q := 111) (ci := 9) (C := RX9) (T := TX9) (NN := 24) (As := []) (rest := []) (c_X9_isFigure l E m5) kv_X9_isFigure kc111 (by decide) rfl q1007 ⟨rfl, rfl⟩ ⟨Nat.le_of_ble_eq_true rfl, Nat.le_of_ble_eq_true rfl⟩ ⟨Nat.zero_le _, Nat.zero_le _⟩ rfl rfl (Nat.le_of_ble_eq_true rfl) dX9_isWord_90 (fun m6 r6 => ?_)
      refine v_if_eq (tgt := 122) dX9_isWord_93 (by decide) ?_ ?_
      · exact w_X9_isWord_122 l E N m6
      · refine v_aload_n dX9_isWord_96 rfl 0 rfl ?_
        refine gf_X9_wordFigure kc111 q831 dX9_isWord_97 ?_
        refine v_aload_n dX9_isWord_100 rfl 0 rfl ?_
        refine gf_X9_words kc111 q832 dX9_isWord_101 ?_
        refine v_aload_n dX9_isWord_104 rfl 0 rfl ?_
        refine v_callVi (q := 111) (ci := 9) (C := RX9) (T := TX9) (NN := 24) (As := []) (rest := [.int (m6 111 10), .ref (eAd E 119)]) (c_X9_here l E m6) kv_X9_here kc111 (by decide) rfl q984 ⟨rfl, rfl⟩ ⟨Nat.le_of_ble_eq_true rfl, Nat.le_of_ble_eq_true rfl⟩ ⟨Nat.zero_le _, Nat.zero_le _⟩ rfl rfl (Nat.le_of_ble_eq_true rfl) dX9_isWord_105 (fun m7 r7 => ?_)
        refine v_bipush (v := 48) dX9_isWord_108 rfl ?_
        refine v_isub dX9_isWord_110 ?_
        refine v_gd (fun g111 => ?_)
        refine v_iast kc119 rfl g111 dX9_isWord_111 (fun m8 => ?_)
        refine v_aload_n dX9_isWord_112 rfl 0 rfl ?_
        refine v_dup dX9_isWord_113 rfl ?_
        refine gf_X9_at kc111 q838 dX9_isWord_114 ?_
        refine v_iconst (v := 1) dX9_isWord_117 rfl ?_
        refine v_iadd dX9_isWord_118 ?_
        refine pf_X9_at kc111 q838 dX9_isWord_119 (fun m9 => ?_)
        exact w_X9_isWord_122 l E N m9
    · refine v_iconst (v := 0) dX9_isWord_87 rfl ?_
      exact v_zret rfl dX9_isWord_88
  · refine v_aload_n dX9_isWord_23 rfl 0 rfl ?_
    refine v_dup dX9_isWord_24 rfl ?_
    refine gf_X9_at kc111 q838 dX9_isWord_25 ?_
    refine v_iconst (v := 1) dX9_isWord_28 rfl ?_
    refine v_iadd dX9_isWord_29 ?_
    refine pf_X9_at kc111 q838 dX9_isWord_30 (fun m10 => ?_)
    refine v_goto (tgt := 13) dX9_isWord_33 (by decide) ?_
    exact hrec_13 m10
theorem w_X9_isWord_13 (l : Launch) (E : EnvT) (N : Nat) : ∀ (n : Nat) (m0 : Mem), V l E RX9 cX9_isWord 2 (some .boolean) (rm_X9_isWord) 0 0 (Zm E) rvI (f_X9_isWord_13 N n m0) m0 13 [(0, .ref (eAd E 111))] [] := by
  intro n
  induction n with
  | zero => intros; exact v_none
  | succ n ih => exact w_X9_isWord_13b l E N _ ih
def f_X9_isWord (N : Nat) (m0 : Mem) : Option (Mem × Int32) := gd (inR (m0 111 10) 8) (lm (up m0 117 (ix (m0 111 10)) (m0 111 16)) (fun m1 => (f_X9_isWord_13 N N m1)))
theorem c_X9_isWord (l : Launch) (E : EnvT) (N : Nat) (m0 : Mem) : CT l E yX9_isWord cX9_isWord 2 (some .boolean) (rm_X9_isWord) rvI (f_X9_isWord N m0) [.ref (eAd E 111)] m0 := by
  refine CT.ofV (own := RX9) (by decide) rfl (Nat.le_of_ble_eq_true rfl) ?_
  show V l E RX9 cX9_isWord 2 (some .boolean) (rm_X9_isWord) 0 0 (Zm E) rvI _ m0 0 [(0, .ref (eAd E 111))] []
  unfold f_X9_isWord
  refine v_aload_n dX9_isWord_0 rfl 0 rfl ?_
  refine gf_X9_wordAt kc111 q829 dX9_isWord_1 ?_
  refine v_aload_n dX9_isWord_4 rfl 0 rfl ?_
  refine gf_X9_words kc111 q832 dX9_isWord_5 ?_
  refine v_aload_n dX9_isWord_8 rfl 0 rfl ?_
  refine gf_X9_at kc111 q838 dX9_isWord_9 ?_
  refine v_gd (fun g12 => ?_)
  refine v_iast kc117 rfl g12 dX9_isWord_12 (fun m1 => ?_)
  exact w_X9_isWord_13 l E N N m1

def rm_X9_areWords : Room := { frames := 4, cells := 0, slots := 0, locals := 83 }
def f_X9_areWords_81 (N : Nat) (rec_27 : Mem → Int32 → Int32 → Option (Mem × Int32)) (m0 : Mem) (x1 : Int32) (s0 : Int32) : Option (Mem × Int32) := (rec_27 m0 x1 s0)
theorem w_X9_areWords_81 (l : Launch) (E : EnvT) (N : Nat) (rec_27 : Mem → Int32 → Int32 → Option (Mem × Int32)) (hrec_27 : ∀ (m0 : Mem) (x1 : Int32) (x2 : Int32), V l E RX9 cX9_areWords 3 (some .boolean) (rm_X9_areWords) 0 0 (Zm E) rvI (rec_27 m0 x1 x2) m0 27 [(0, .ref (eAd E 111)), (1, .int x1), (2, .int x2)] []) (m0 : Mem) (x1 : Int32) (s0 : Int32) : V l E RX9 cX9_areWords 3 (some .boolean) (rm_X9_areWords) 0 0 (Zm E) rvI (f_X9_areWords_81 N rec_27 m0 x1 s0) m0 81 [(0, .ref (eAd E 111)), (1, .int x1)] [.int s0] := by
  unfold f_X9_areWords_81
  refine v_istore_n (lv' := [(2, .int s0), (0, .ref (eAd E 111)), (1, .int x1)]) dX9_areWords_81 rfl (Nat.le_of_ble_eq_true rfl) rfl ?_
  refine v_goto (tgt := 27) dX9_areWords_82 (by decide) ?_
  refine v_sub [1, 2, 0] rfl ?_
  exact hrec_27 m0 x1 s0
def f_X9_areWords_80 (N : Nat) (rec_27 : Mem → Int32 → Int32 → Option (Mem × Int32)) (m0 : Mem) (x1 : Int32) : Option (Mem × Int32) := (f_X9_areWords_81 N rec_27 m0 x1 0)
theorem w_X9_areWords_80 (l : Launch) (E : EnvT) (N : Nat) (rec_27 : Mem → Int32 → Int32 → Option (Mem × Int32)) (hrec_27 : ∀ (m0 : Mem) (x1 : Int32) (x2 : Int32), V l E RX9 cX9_areWords 3 (some .boolean) (rm_X9_areWords) 0 0 (Zm E) rvI (rec_27 m0 x1 x2) m0 27 [(0, .ref (eAd E 111)), (1, .int x1), (2, .int x2)] []) (m0 : Mem) (x1 : Int32) : V l E RX9 cX9_areWords 3 (some .boolean) (rm_X9_areWords) 0 0 (Zm E) rvI (f_X9_areWords_80 N rec_27 m0 x1) m0 80 [(0, .ref (eAd E 111)), (1, .int x1)] [] := by
  unfold f_X9_areWords_80
  refine v_iconst (v := 0) dX9_areWords_80 rfl ?_
  exact w_X9_areWords_81 l E N rec_27 hrec_27 m0 x1 0
def f_X9_areWords_27b (N : Nat) (rec_27 : Mem → Int32 → Int32 → Option (Mem × Int32)) (m0 : Mem) (x1 : Int32) (x2 : Int32) : Option (Mem × Int32) := if x2 = 0 then (gd (isB x2) (some (m0, x2))) else (bm (f_X9_here m0) (fun m1 r1 => if r1 = 58 then (lm (up m1 111 16 ((m1 111 16) + 1)) (fun m2 => if 4 ≤ ((m2 111 10) - x1) then (f_X9_areWords_80 N rec_27 m2 x1) else (if 7 ≤ (m2 111 10) then (f_X9_areWords_80 N rec_27 m2 x1) else (bm (f_X9_isWord N m2) (fun m3 r3 => if r3 = 0 then (f_X9_areWords_80 N rec_27 m3 x1) else (f_X9_areWords_81 N rec_27 m3 x1 1)))))) else (gd (isB x2) (some (m1, x2)))))
def f_X9_areWords_27 (N : Nat) : Nat → Mem → Int32 → Int32 → Option (Mem × Int32)
  | 0 => fun _ _ _ => none
  | n + 1 => f_X9_areWords_27b N (f_X9_areWords_27 N n)
theorem w_X9_areWords_27b (l : Launch) (E : EnvT) (N : Nat) (rec_27 : Mem → Int32 → Int32 → Option (Mem × Int32)) (hrec_27 : ∀ (m0 : Mem) (x1 : Int32) (x2 : Int32), V l E RX9 cX9_areWords 3 (some .boolean) (rm_X9_areWords) 0 0 (Zm E) rvI (rec_27 m0 x1 x2) m0 27 [(0, .ref (eAd E 111)), (1, .int x1), (2, .int x2)] []) (m0 : Mem) (x1 : Int32) (x2 : Int32) : V l E RX9 cX9_areWords 3 (some .boolean) (rm_X9_areWords) 0 0 (Zm E) rvI (f_X9_areWords_27b N rec_27 m0 x1 x2) m0 27 [(0, .ref (eAd E 111)), (1, .int x1), (2, .int x2)] [] := by
  unfold f_X9_areWords_27b
  refine v_iload_n dX9_areWords_27 rfl 2 rfl ?_
  refine v_if_eq (tgt := 85) dX9_areWords_28 (by decide) ?_ ?_
  · refine v_iload_n dX9_areWords_85 rfl 2 rfl ?_
    refine v_gd (fun g86 => ?_)
    exact v_zret g86 dX9_areWords_86
  · refine v_aload_n dX9_areWords_31 rfl 0 rfl ?_
    refine v_callVi (q := 111) (ci := 9) (C := RX9) (T := TX9) (NN := 24) (As := []) (rest := []) (c_X9_here l E m0) kv_X9_here kc111 (by decide) rfl q984 ⟨rfl, rfl⟩ ⟨Nat.le_of_ble_eq_true rfl, Nat.le_of_ble_eq_true rfl⟩ ⟨Nat.zero_le _, Nat.zero_le _⟩ rfl rfl (Nat.le_of_ble_eq_true rfl) dX9_areWords_32 (fun m1 r1 => ?_)
    refine v_bipush (v := 58) dX9_areWords_35 rfl ?_
    refine v_icmp_ne (tgt := 85) dX9_areWords_37 (by decide) ?_ ?_
    · refine v_iload_n dX9_areWords_85 rfl 2 rfl ?_
      refine v_gd (fun g86 => ?_)
      exact v_zret g86 dX9_areWords_86
    · refine v_aload_n dX9_areWords_40 rfl 0 rfl ?_
      refine v_dup dX9_areWords_41 rfl ?_
      refine gf_X9_at kc111 q838 dX9_areWords_42 ?_
      refine v_iconst (v := 1) dX9_areWords_45 rfl ?_
      refine v_iadd dX9_areWords_46 ?_
      refine pf_X9_at kc111 q838 dX9_areWords_47 (fun m2 => ?_)
      refine v_aload_n dX9_areWords_50 rfl 0 rfl ?_
      refine gf_X9_words kc111 q832 dX9_areWords_51 ?_
      refine v_iload_n dX9_areWords_54 rfl 1 rfl ?_
      refine v_isub dX9_areWords_55 ?_
      refine v_iconst (v := 4) dX9_areWords_56 rfl ?_
      refine v_icmp_ge (tgt := 80) dX9_areWords_57 (by decide) ?_ ?_
      · refine v_sub [0, 1] rfl ?_
        exact w_X9_areWords_80 l E N rec_27 hrec_27 m2 x1
      · refine v_aload_n dX9_areWords_60 rfl 0 rfl ?_
        refine gf_X9_words kc111 q832 dX9_areWords_61 ?_
        refine v_bipush (v := 7) dX9_areWords_64 rfl ?_
        refine v_icmp_ge (tgt := 80) dX9_areWords_66 (by decide) ?_ ?_
        · refine v_sub [0, 1] rfl ?_
          exact w_X9_areWords_80 l E N rec_27 hrec_27 m2 x1
        · refine v_aload_n dX9_areWords_69 rfl 0 rfl ?_
          refine v_callVi (q := 111) (ci := 9) (C := RX9) (T := TX9) (NN := 24) (As := []) (rest := []) (c_X9_isWord l E N m2) kv_X9_isWord kc111 (by decide) rfl q1003 ⟨rfl, rfl⟩ ⟨Nat.le_of_ble_eq_true rfl, Nat.le_of_ble_eq_true rfl⟩ ⟨Nat.zero_le _, Nat.zero_le _⟩ rfl rfl (Nat.le_of_ble_eq_true rfl) dX9_areWords_70 (fun m3 r3 => ?_)
          refine v_if_eq (tgt := 80) dX9_areWords_73 (by decide) ?_ ?_
          · refine v_sub [0, 1] rfl ?_
            exact w_X9_areWords_80 l E N rec_27 hrec_27 m3 x1
          · refine v_iconst (v := 1) dX9_areWords_76 rfl ?_
            refine v_goto (tgt := 81) dX9_areWords_77 (by decide) ?_
            refine v_sub [0, 1] rfl ?_
            exact w_X9_areWords_81 l E N rec_27 hrec_27 m3 x1 1
theorem w_X9_areWords_27 (l : Launch) (E : EnvT) (N : Nat) : ∀ (n : Nat) (m0 : Mem) (x1 : Int32) (x2 : Int32), V l E RX9 cX9_areWords 3 (some .boolean) (rm_X9_areWords) 0 0 (Zm E) rvI (f_X9_areWords_27 N n m0 x1 x2) m0 27 [(0, .ref (eAd E 111)), (1, .int x1), (2, .int x2)] [] := by
  intro n
  induction n with
  | zero => intros; exact v_none
  | succ n ih => exact w_X9_areWords_27b l E N _ ih
def f_X9_areWords_26 (N : Nat) (m0 : Mem) (x1 : Int32) (s0 : Int32) : Option (Mem × Int32) := (f_X9_areWords_27 N N m0 x1 s0)
theorem w_X9_areWords_26 (l : Launch) (E : EnvT) (N : Nat) (m0 : Mem) (x1 : Int32) (s0 : Int32) : V l E RX9 cX9_areWords 3 (some .boolean) (rm_X9_areWords) 0 0 (Zm E) rvI (f_X9_areWords_26 N m0 x1 s0) m0 26 [(0, .ref (eAd E 111)), (1, .int x1)] [.int s0] := by
  unfold f_X9_areWords_26
  refine v_istore_n (lv' := [(2, .int s0), (0, .ref (eAd E 111)), (1, .int x1)]) dX9_areWords_26 rfl (Nat.le_of_ble_eq_true rfl) rfl ?_
  refine v_sub [1, 2, 0] rfl ?_
  exact w_X9_areWords_27 l E N N m0 x1 s0
def f_X9_areWords_25 (N : Nat) (m0 : Mem) (x1 : Int32) : Option (Mem × Int32) := (f_X9_areWords_26 N m0 x1 0)
theorem w_X9_areWords_25 (l : Launch) (E : EnvT) (N : Nat) (m0 : Mem) (x1 : Int32) : V l E RX9 cX9_areWords 3 (some .boolean) (rm_X9_areWords) 0 0 (Zm E) rvI (f_X9_areWords_25 N m0 x1) m0 25 [(0, .ref (eAd E 111)), (1, .int x1)] [] := by
  unfold f_X9_areWords_25
  refine v_iconst (v := 0) dX9_areWords_25 rfl ?_
  exact w_X9_areWords_26 l E N m0 x1 0
def f_X9_areWords (N : Nat) (m0 : Mem) : Option (Mem × Int32) := if 7 ≤ (m0 111 10) then (f_X9_areWords_25 N m0 (m0 111 10)) else (bm (f_X9_isWord N m0) (fun m1 r1 => if r1 = 0 then (f_X9_areWords_25 N m1 (m0 111 10)) else (f_X9_areWords_26 N m1 (m0 111 10) 1)))
theorem c_X9_areWords (l : Launch) (E : EnvT) (N : Nat) (m0 : Mem) : CT l E yX9_areWords cX9_areWords 3 (some .boolean) (rm_X9_areWords) rvI (f_X9_areWords N m0) [.ref (eAd E 111)] m0 := by
  refine CT.ofV (own := RX9) (by decide) rfl (Nat.le_of_ble_eq_true rfl) ?_
  show V l E RX9 cX9_areWords 3 (some .boolean) (rm_X9_areWords) 0 0 (Zm E) rvI _ m0 0 [(0, .ref (eAd E 111))] []
  unfold f_X9_areWords
  refine v_aload_n dX9_areWords_0 rfl 0 rfl ?_
  refine gf_X9_words kc111 q832 dX9_areWords_1 ?_
  refine v_istore_n (lv' := [(1, .int (m0 111 10)), (0, .ref (eAd E 111))]) dX9_areWords_4 rfl (Nat.le_of_ble_eq_true rfl) rfl ?_
  refine v_aload_n dX9_areWords_5 rfl 1 rfl ?_
  refine gf_X9_words kc111 q832 dX9_areWords_6 ?_
  refine v_bipush (v := 7) dX9_areWords_9 rfl ?_
  refine v_icmp_ge (tgt := 25) dX9_areWords_11 (by decide) ?_ ?_
  · refine v_sub [1, 0] rfl ?_
    exact w_X9_areWords_25 l E N m0 (m0 111 10)
  · refine v_aload_n dX9_areWords_14 rfl 1 rfl ?_
    refine v_callVi (q := 111) (ci := 9) (C := RX9) (T := TX9) (NN := 24) (As := []) (rest := []) (c_X9_isWord l E N m0) kv_X9_isWord kc111 (by decide) rfl q1003 ⟨rfl, rfl⟩ ⟨Nat.le_of_ble_eq_true rfl, Nat.le_of_ble_eq_true rfl⟩ ⟨Nat.zero_le _, Nat.zero_le _⟩ rfl rfl (Nat.le_of_ble_eq_true rfl) dX9_areWords_15 (fun m1 r1 => ?_)
    refine v_if_eq (tgt := 25) dX9_areWords_18 (by decide) ?_ ?_
    · refine v_sub [1, 0] rfl ?_
      exact w_X9_areWords_25 l E N m1 (m0 111 10)
    · refine v_iconst (v := 1) dX9_areWords_21 rfl ?_
      refine v_goto (tgt := 26) dX9_areWords_22 (by decide) ?_
      refine v_sub [1, 0] rfl ?_
      exact w_X9_areWords_26 l E N m1 (m0 111 10) 1

def rm_X9_isCommonWord : Room := { frames := 3, cells := 0, slots := 0, locals := 62 }
def f_X9_isCommonWord_60 (N : Nat) (rec_17 : Mem → Int32 → Option (Mem × Int32)) (m0 : Mem) (x1 : Int32) (s1 : Int32) : Option (Mem × Int32) := lm (up m0 111 18 s1) (fun m1 => lm (up m1 111 16 ((m1 111 16) + 1)) (fun m2 => (rec_17 m2 (x1 + 1))))
theorem w_X9_isCommonWord_60 (l : Launch) (E : EnvT) (N : Nat) (rec_17 : Mem → Int32 → Option (Mem × Int32)) (hrec_17 : ∀ (m0 : Mem) (x1 : Int32), V l E RX9 cX9_isCommonWord 2 (some .boolean) (rm_X9_isCommonWord) 0 0 (Zm E) rvI (rec_17 m0 x1) m0 17 [(0, .ref (eAd E 111)), (1, .int x1)] []) (m0 : Mem) (x1 : Int32) (s1 : Int32) : V l E RX9 cX9_isCommonWord 2 (some .boolean) (rm_X9_isCommonWord) 0 0 (Zm E) rvI (f_X9_isCommonWord_60 N rec_17 m0 x1 s1) m0 60 [(0, .ref (eAd E 111)), (1, .int x1)] [.int s1, .ref (eAd E 111)] := by
  unfold f_X9_isCommonWord_60
  refine pf_X9_common kc111 q840 dX9_isCommonWord_60 (fun m1 => ?_)
  refine v_iinc (v := (x1 + 1)) (lv' := [(1, .int (x1 + 1)), (0, .ref (eAd E 111))]) dX9_isCommonWord_63 1 rfl rfl (Nat.le_of_ble_eq_true rfl) rfl ?_
  refine v_aload_n dX9_isCommonWord_66 rfl 1 rfl ?_
  refine v_dup dX9_isCommonWord_67 rfl ?_
  refine gf_X9_at kc111 q838 dX9_isCommonWord_68 ?_
  refine v_iconst (v := 1) dX9_isCommonWord_71 rfl ?_
  refine v_iadd dX9_isCommonWord_72 ?_
  refine pf_X9_at kc111 q838 dX9_isCommonWord_73 (fun m2 => ?_)
  refine v_goto (tgt := 17) dX9_isCommonWord_76 (by decide) ?_
  refine v_sub [1, 0] rfl ?_
  exact hrec_17 m2 (x1 + 1)
def f_X9_isCommonWord_17b (N : Nat) (rec_17 : Mem → Int32 → Option (Mem × Int32)) (m0 : Mem) (x1 : Int32) : Option (Mem × Int32) := bm (f_X9_here m0) (fun m1 r1 => bm (f_X9_isLetter m1 r1) (fun m2 r2 => if r2 = 0 then (lm (up m2 111 17 1) (fun m3 => bm (f_X9_in m3 x1 1 8) (fun m4 r4 => gd (isB r4) (some (m4, r4))))) else (if 4 ≤ x1 then (f_X9_isCommonWord_60 N rec_17 m2 x1 (m2 111 18)) else (bm (f_X9_here m2) (fun m5 r5 => bm (f_X9_small m5 r5) (fun m6 r6 => (f_X9_isCommonWord_60 N rec_17 m6 x1 ((((32 * (m2 111 18)) + r6) - 97) + 1))))))))
def f_X9_isCommonWord_17 (N : Nat) : Nat → Mem → Int32 → Option (Mem × Int32)
  | 0 => fun _ _ => none
  | n + 1 => f_X9_isCommonWord_17b N (f_X9_isCommonWord_17 N n)
theorem w_X9_isCommonWord_17b (l : Launch) (E : EnvT) (N : Nat) (rec_17 : Mem → Int32 → Option (Mem × Int32)) (hrec_17 : ∀ (m0 : Mem) (x1 : Int32), V l E RX9 cX9_isCommonWord 2 (some .boolean) (rm_X9_isCommonWord) 0 0 (Zm E) rvI (rec_17 m0 x1) m0 17 [(0, .ref (eAd E 111)), (1, .int x1)] []) (m0 : Mem) (x1 : Int32) : V l E RX9 cX9_isCommonWord 2 (some .boolean) (rm_X9_isCommonWord) 0 0 (Zm E) rvI (f_X9_isCommonWord_17b N rec_17 m0 x1) m0 17 [(0, .ref (eAd E 111)), (1, .int x1)] [] := by
  unfold f_X9_isCommonWord_17b
  refine v_aload_n dX9_isCommonWord_17 rfl 0 rfl ?_
  refine v_callVi (q := 111) (ci := 9) (C := RX9) (T := TX9) (NN := 24) (As := []) (rest := []) (c_X9_here l E m0) kv_X9_here kc111 (by decide) rfl q984 ⟨rfl, rfl⟩ ⟨Nat.le_of_ble_eq_true rfl, Nat.le_of_ble_eq_true rfl⟩ ⟨Nat.zero_le _, Nat.zero_le _⟩ rfl rfl (Nat.le_of_ble_eq_true rfl) dX9_isCommonWord_18 (fun m1 r1 => ?_)
  refine v_callSi (As := [.int r1]) (rest := []) (c_X9_isLetter l E m1 r1) ks_X9_isLetter q996 ⟨rfl, rfl⟩ ⟨Nat.le_of_ble_eq_true rfl, Nat.le_of_ble_eq_true rfl⟩ ⟨Nat.zero_le _, Nat.zero_le _⟩ rfl rfl (Nat.le_of_ble_eq_true rfl) dX9_isCommonWord_21 (fun m2 r2 => ?_)
  refine v_if_eq (tgt := 79) dX9_isCommonWord_24 (by decide) ?_ ?_
  · refine v_aload_n dX9_isCommonWord_79 rfl 0 rfl ?_
    refine v_iconst (v := 1) dX9_isCommonWord_80 rfl ?_
    refine pf_X9_isCommon kc111 q839 rfl dX9_isCommonWord_81 (fun m3 => ?_)
    refine v_iload_n dX9_isCommonWord_84 rfl 1 rfl ?_
    refine v_iconst (v := 1) dX9_isCommonWord_85 rfl ?_
    refine v_bipush (v := 8) dX9_isCommonWord_86 rfl ?_
    refine v_callSi (As := [.int x1, .int 1, .int 8]) (rest := []) (c_X9_in l E m3 x1 1 8) ks_X9_in q912 ⟨rfl, rfl⟩ ⟨Nat.le_of_ble_eq_true rfl, Nat.le_of_ble_eq_true rfl⟩ ⟨Nat.zero_le _, Nat.zero_le _⟩ rfl rfl (Nat.le_of_ble_eq_true rfl) dX9_isCommonWord_88 (fun m4 r4 => ?_)
    refine v_gd (fun g91 => ?_)
    exact v_zret g91 dX9_isCommonWord_91
  · refine v_aload_n dX9_isCommonWord_27 rfl 0 rfl ?_
    refine v_iload_n dX9_isCommonWord_28 rfl 1 rfl ?_
    refine v_iconst (v := 4) dX9_isCommonWord_29 rfl ?_
    refine v_icmp_ge (tgt := 56) dX9_isCommonWord_30 (by decide) ?_ ?_
    · refine v_aload_n dX9_isCommonWord_56 rfl 0 rfl ?_
      refine gf_X9_common kc111 q840 dX9_isCommonWord_57 ?_
      exact w_X9_isCommonWord_60 l E N rec_17 hrec_17 m2 x1 (m2 111 18)
    · refine v_bipush (v := 32) dX9_isCommonWord_33 rfl ?_
      refine v_aload_n dX9_isCommonWord_35 rfl 0 rfl ?_
      refine gf_X9_common kc111 q840 dX9_isCommonWord_36 ?_
      refine v_imul dX9_isCommonWord_39 ?_
      refine v_aload_n dX9_isCommonWord_40 rfl 0 rfl ?_
      refine v_callVi (q := 111) (ci := 9) (C := RX9) (T := TX9) (NN := 24) (As := []) (rest := [.int (32 * (m2 111 18)), .ref (eAd E 111)]) (c_X9_here l E m2) kv_X9_here kc111 (by decide) rfl q984 ⟨rfl, rfl⟩ ⟨Nat.le_of_ble_eq_true rfl, Nat.le_of_ble_eq_true rfl⟩ ⟨Nat.zero_le _, Nat.zero_le _⟩ rfl rfl (Nat.le_of_ble_eq_true rfl) dX9_isCommonWord_41 (fun m5 r5 => ?_)
      refine v_callSi (As := [.int r5]) (rest := [.int (32 * (m2 111 18)), .ref (eAd E 111)]) (c_X9_small l E m5 r5) ks_X9_small q937 ⟨rfl, rfl⟩ ⟨Nat.le_of_ble_eq_true rfl, Nat.le_of_ble_eq_true rfl⟩ ⟨Nat.zero_le _, Nat.zero_le _⟩ rfl rfl (Nat.le_of_ble_eq_true rfl) dX9_isCommonWord_44 (fun m6 r6 => ?_)
      refine v_iadd dX9_isCommonWord_47 ?_
      refine v_bipush (v := 97) dX9_isCommonWord_48 rfl ?_
      refine v_isub dX9_isCommonWord_50 ?_
      refine v_iconst (v := 1) dX9_isCommonWord_51 rfl ?_
      refine v_iadd dX9_isCommonWord_52 ?_
      refine v_goto (tgt := 60) dX9_isCommonWord_53 (by decide) ?_
      exact w_X9_isCommonWord_60 l E N rec_17 hrec_17 m6 x1 ((((32 * (m2 111 18)) + r6) - 97) + 1)
theorem w_X9_isCommonWord_17 (l : Launch) (E : EnvT) (N : Nat) : ∀ (n : Nat) (m0 : Mem) (x1 : Int32), V l E RX9 cX9_isCommonWord 2 (some .boolean) (rm_X9_isCommonWord) 0 0 (Zm E) rvI (f_X9_isCommonWord_17 N n m0 x1) m0 17 [(0, .ref (eAd E 111)), (1, .int x1)] [] := by
  intro n
  induction n with
  | zero => intros; exact v_none
  | succ n ih => exact w_X9_isCommonWord_17b l E N _ ih
def f_X9_isCommonWord (N : Nat) (m0 : Mem) : Option (Mem × Int32) := lm (up m0 111 16 ((m0 111 16) + 1)) (fun m1 => lm (up m1 111 18 0) (fun m2 => (f_X9_isCommonWord_17 N N m2 0)))
theorem c_X9_isCommonWord (l : Launch) (E : EnvT) (N : Nat) (m0 : Mem) : CT l E yX9_isCommonWord cX9_isCommonWord 2 (some .boolean) (rm_X9_isCommonWord) rvI (f_X9_isCommonWord N m0) [.ref (eAd E 111)] m0 := by
  refine CT.ofV (own := RX9) (by decide) rfl (Nat.le_of_ble_eq_true rfl) ?_
  show V l E RX9 cX9_isCommonWord 2 (some .boolean) (rm_X9_isCommonWord) 0 0 (Zm E) rvI _ m0 0 [(0, .ref (eAd E 111))] []
  unfold f_X9_isCommonWord
  refine v_aload_n dX9_isCommonWord_0 rfl 0 rfl ?_
  refine v_dup dX9_isCommonWord_1 rfl ?_
  refine gf_X9_at kc111 q838 dX9_isCommonWord_2 ?_
  refine v_iconst (v := 1) dX9_isCommonWord_5 rfl ?_
  refine v_iadd dX9_isCommonWord_6 ?_
  refine pf_X9_at kc111 q838 dX9_isCommonWord_7 (fun m1 => ?_)
  refine v_iconst (v := 0) dX9_isCommonWord_10 rfl ?_
  refine v_istore_n (lv' := [(1, .int 0), (0, .ref (eAd E 111))]) dX9_isCommonWord_11 rfl (Nat.le_of_ble_eq_true rfl) rfl ?_
  refine v_aload_n dX9_isCommonWord_12 rfl 1 rfl ?_
  refine v_iconst (v := 0) dX9_isCommonWord_13 rfl ?_
  refine pf_X9_common kc111 q840 dX9_isCommonWord_14 (fun m2 => ?_)
  refine v_sub [1, 0] rfl ?_
  exact w_X9_isCommonWord_17 l E N N m2 0

def rm_X9_isHeader : Room := { frames := 5, cells := 0, slots := 0, locals := 105 }
def f_X9_isHeader_51 (N : Nat) (m0 : Mem) : Option (Mem × Int32) := bm (f_X9_areWords N m0) (fun m1 r1 => if r1 = 0 then (some (m1, 0)) else (if 6 < (m1 111 10) then (some (m1, 0)) else (some (m1, 1))))
theorem w_X9_isHeader_51 (l : Launch) (E : EnvT) (N : Nat) (m0 : Mem) : V l E RX9 cX9_isHeader 1 (some .boolean) (rm_X9_isHeader) 0 0 (Zm E) rvI (f_X9_isHeader_51 N m0) m0 51 [(0, .ref (eAd E 111))] [] := by
  unfold f_X9_isHeader_51
  refine v_aload_n dX9_isHeader_51 rfl 0 rfl ?_
  refine v_callVi (q := 111) (ci := 9) (C := RX9) (T := TX9) (NN := 24) (As := []) (rest := []) (c_X9_areWords l E N m0) kv_X9_areWords kc111 (by decide) rfl q999 ⟨rfl, rfl⟩ ⟨Nat.le_of_ble_eq_true rfl, Nat.le_of_ble_eq_true rfl⟩ ⟨Nat.zero_le _, Nat.zero_le _⟩ rfl rfl (Nat.le_of_ble_eq_true rfl) dX9_isHeader_52 (fun m1 r1 => ?_)
  refine v_if_eq (tgt := 71) dX9_isHeader_55 (by decide) ?_ ?_
  · refine v_iconst (v := 0) dX9_isHeader_71 rfl ?_
    exact v_zret rfl dX9_isHeader_72
  · refine v_aload_n dX9_isHeader_58 rfl 0 rfl ?_
    refine gf_X9_words kc111 q832 dX9_isHeader_59 ?_
    refine v_bipush (v := 6) dX9_isHeader_62 rfl ?_
    refine v_icmp_gt (tgt := 71) dX9_isHeader_64 (by decide) ?_ ?_
    · refine v_iconst (v := 0) dX9_isHeader_71 rfl ?_
      exact v_zret rfl dX9_isHeader_72
    · refine v_iconst (v := 1) dX9_isHeader_67 rfl ?_
      refine v_goto (tgt := 72) dX9_isHeader_68 (by decide) ?_
      exact v_zret rfl dX9_isHeader_72
def f_X9_isHeader (N : Nat) (m0 : Mem) : Option (Mem × Int32) := lm (up m0 111 17 0) (fun m1 => lm (up m1 111 10 (m1 111 22)) (fun m2 => bm (f_X9_here m2) (fun m3 r3 => if r3 = 42 then (bm (f_X9_isCommonWord N m3) (fun m7 r7 => gd (isB r7) (some (m7, r7)))) else (bm (f_X9_here m3) (fun m4 r4 => if r4 = 58 then (lm (up m4 111 16 ((m4 111 16) + 1)) (fun m5 => lm (up m5 111 10 0) (fun m6 => (f_X9_isHeader_51 N m6)))) else (f_X9_isHeader_51 N m4))))))
theorem c_X9_isHeader (l : Launch) (E : EnvT) (N : Nat) (m0 : Mem) : CT l E yX9_isHeader cX9_isHeader 1 (some .boolean) (rm_X9_isHeader) rvI (f_X9_isHeader N m0) [.ref (eAd E 111)] m0 := by
  refine CT.ofV (own := RX9) (by decide) rfl (Nat.le_of_ble_eq_true rfl) ?_
  show V l E RX9 cX9_isHeader 1 (some .boolean) (rm_X9_isHeader) 0 0 (Zm E) rvI _ m0 0 [(0, .ref (eAd E 111))] []
  unfold f_X9_isHeader
  refine v_aload_n dX9_isHeader_0 rfl 0 rfl ?_
  refine v_iconst (v := 0) dX9_isHeader_1 rfl ?_
  refine pf_X9_isCommon kc111 q839 rfl dX9_isHeader_2 (fun m1 => ?_)
  refine v_aload_n dX9_isHeader_5 rfl 0 rfl ?_
  refine v_aload_n dX9_isHeader_6 rfl 0 rfl ?_
  refine gf_X9_branch kc111 q844 dX9_isHeader_7 ?_
  refine pf_X9_words kc111 q832 dX9_isHeader_10 (fun m2 => ?_)
  refine v_aload_n dX9_isHeader_13 rfl 0 rfl ?_
  refine v_callVi (q := 111) (ci := 9) (C := RX9) (T := TX9) (NN := 24) (As := []) (rest := []) (c_X9_here l E m2) kv_X9_here kc111 (by decide) rfl q984 ⟨rfl, rfl⟩ ⟨Nat.le_of_ble_eq_true rfl, Nat.le_of_ble_eq_true rfl⟩ ⟨Nat.zero_le _, Nat.zero_le _⟩ rfl rfl (Nat.le_of_ble_eq_true rfl) dX9_isHeader_14 (fun m3 r3 => ?_)
  refine v_bipush (v := 42) dX9_isHeader_17 rfl ?_
  refine v_icmp_ne (tgt := 27) dX9_isHeader_19 (by decide) ?_ ?_
  · refine v_aload_n dX9_isHeader_27 rfl 0 rfl ?_
    refine v_callVi (q := 111) (ci := 9) (C := RX9) (T := TX9) (NN := 24) (As := []) (rest := []) (c_X9_here l E m3) kv_X9_here kc111 (by decide) rfl q984 ⟨rfl, rfl⟩ ⟨Nat.le_of_ble_eq_true rfl, Nat.le_of_ble_eq_true rfl⟩ ⟨Nat.zero_le _, Nat.zero_le _⟩ rfl rfl (Nat.le_of_ble_eq_true rfl) dX9_isHeader_28 (fun m4 r4 => ?_)
    refine v_bipush (v := 58) dX9_isHeader_31 rfl ?_
    refine v_icmp_ne (tgt := 51) dX9_isHeader_33 (by decide) ?_ ?_
    · exact w_X9_isHeader_51 l E N m4
    · refine v_aload_n dX9_isHeader_36 rfl 0 rfl ?_
      refine v_dup dX9_isHeader_37 rfl ?_
      refine gf_X9_at kc111 q838 dX9_isHeader_38 ?_
      refine v_iconst (v := 1) dX9_isHeader_41 rfl ?_
      refine v_iadd dX9_isHeader_42 ?_
      refine pf_X9_at kc111 q838 dX9_isHeader_43 (fun m5 => ?_)
      refine v_aload_n dX9_isHeader_46 rfl 0 rfl ?_
      refine v_iconst (v := 0) dX9_isHeader_47 rfl ?_
      refine pf_X9_words kc111 q832 dX9_isHeader_48 (fun m6 => ?_)
      exact w_X9_isHeader_51 l E N m6
  · refine v_aload_n dX9_isHeader_22 rfl 0 rfl ?_
    refine v_callVi (q := 111) (ci := 9) (C := RX9) (T := TX9) (NN := 24) (As := []) (rest := []) (c_X9_isCommonWord l E N m3) kv_X9_isCommonWord kc111 (by decide) rfl q992 ⟨rfl, rfl⟩ ⟨Nat.le_of_ble_eq_true rfl, Nat.le_of_ble_eq_true rfl⟩ ⟨Nat.zero_le _, Nat.zero_le _⟩ rfl rfl (Nat.le_of_ble_eq_true rfl) dX9_isHeader_23 (fun m7 r7 => ?_)
    refine v_gd (fun g26 => ?_)
    exact v_zret g26 dX9_isHeader_26
