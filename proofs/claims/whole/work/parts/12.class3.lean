def rm_X1_isFitBy : Room := { frames := 1, cells := 0, slots := 0, locals := 22 }
def f_X1_isFitBy_38b (N : Nat) (k0 : Nat) (rec_38 : Mem → Int32 → Int32 → Int32 → Option (Mem × Int32)) (m0 : Mem) (x2 : Int32) (x3 : Int32) (x5 : Int32) : Option (Mem × Int32) := if x3 ≤ x5 then (some (m0, 1)) else (bm (f_X4_capitalAt m0 (x2 + x5)) (fun m1 r1 => gd (inR x5 8) (if r1 = (m1 (k0 + 1) (ix x5)) then (rec_38 m1 x2 x3 (x5 + 1)) else (some (m1, 0)))))
def f_X1_isFitBy_38 (N : Nat) (k0 : Nat) : Nat → Mem → Int32 → Int32 → Int32 → Option (Mem × Int32)
  | 0 => fun _ _ _ _ => none
  | n + 1 => f_X1_isFitBy_38b N k0 (f_X1_isFitBy_38 N k0 n)
theorem w_X1_isFitBy_38b (l : Launch) (E : EnvT) (N : Nat) (k0 : Nat) (hk0 : kd k0 = 1) (rec_38 : Mem → Int32 → Int32 → Int32 → Option (Mem × Int32)) (hrec_38 : ∀ (m0 : Mem) (x2 : Int32) (x3 : Int32) (x5 : Int32), V l E RX1 cX1_isFitBy 6 (some .boolean) (rm_X1_isFitBy) 0 0 (Zm E) rvI (rec_38 m0 x2 x3 x5) m0 38 [(0, .ref (eAd E k0)), (1, .ref (eAd E 1)), (2, .int x2), (3, .int x3), (5, .int x5)] []) (m0 : Mem) (x2 : Int32) (x3 : Int32) (x5 : Int32) : V l E RX1 cX1_isFitBy 6 (some .boolean) (rm_X1_isFitBy) 0 0 (Zm E) rvI (f_X1_isFitBy_38b N k0 rec_38 m0 x2 x3 x5) m0 38 [(0, .ref (eAd E k0)), (1, .ref (eAd E 1)), (2, .int x2), (3, .int x3), (5, .int x5)] [] := by
  unfold f_X1_isFitBy_38b
  refine v_iload dX1_isFitBy_38 4 rfl ?_
  refine v_iload_n dX1_isFitBy_40 rfl 3 rfl ?_
  refine v_icmp_ge (tgt := 70) dX1_isFitBy_41 (by decide) ?_ ?_
  · refine v_iconst (v := 1) dX1_isFitBy_70 rfl ?_
    exact v_zret rfl dX1_isFitBy_71
  · refine v_aload_n dX1_isFitBy_44 rfl 1 rfl ?_
    refine v_iload_n dX1_isFitBy_45 rfl 2 rfl ?_
    refine v_iload dX1_isFitBy_46 4 rfl ?_
    refine v_iadd dX1_isFitBy_48 ?_
    refine v_callVi (q := 1) (ci := 4) (C := RX4) (T := TX4) (NN := 2) (As := [.int (x2 + x5)]) (rest := []) (c_X4_capitalAt l E m0 (x2 + x5)) kv_X4_capitalAt kc1 (by decide) rfl q416 ⟨rfl, rfl⟩ ⟨Nat.le_of_ble_eq_true rfl, Nat.le_of_ble_eq_true rfl⟩ ⟨Nat.zero_le _, Nat.zero_le _⟩ rfl rfl (Nat.le_of_ble_eq_true rfl) dX1_isFitBy_49 (fun m1 r1 => ?_)
    refine v_aload_n dX1_isFitBy_52 rfl 0 rfl ?_
    refine gf_X1_capitals hk0 q137 dX1_isFitBy_53 ?_
    refine v_iload dX1_isFitBy_56 4 rfl ?_
    refine v_gd (fun g58 => ?_)
    refine v_bald (knode hk0) (lnode hk0) g58 dX1_isFitBy_58 ?_
    refine v_icmp_eq (tgt := 64) dX1_isFitBy_59 (by decide) ?_ ?_
    · refine v_iinc (v := (x5 + 1)) (lv' := [(5, .int (x5 + 1)), (0, .ref (eAd E k0)), (1, .ref (eAd E 1)), (2, .int x2), (3, .int x3)]) dX1_isFitBy_64 4 rfl rfl (Nat.le_of_ble_eq_true rfl) rfl ?_
      refine v_goto (tgt := 38) dX1_isFitBy_67 (by decide) ?_
      refine v_sub [1, 2, 3, 4, 0] rfl ?_
      exact hrec_38 m1 x2 x3 (x5 + 1)
    · refine v_iconst (v := 0) dX1_isFitBy_62 rfl ?_
      exact v_zret rfl dX1_isFitBy_63
theorem w_X1_isFitBy_38 (l : Launch) (E : EnvT) (N : Nat) (k0 : Nat) (hk0 : kd k0 = 1) : ∀ (n : Nat) (m0 : Mem) (x2 : Int32) (x3 : Int32) (x5 : Int32), V l E RX1 cX1_isFitBy 6 (some .boolean) (rm_X1_isFitBy) 0 0 (Zm E) rvI (f_X1_isFitBy_38 N k0 n m0 x2 x3 x5) m0 38 [(0, .ref (eAd E k0)), (1, .ref (eAd E 1)), (2, .int x2), (3, .int x3), (5, .int x5)] [] := by
  intro n
  induction n with
  | zero => intros; exact v_none
  | succ n ih => exact w_X1_isFitBy_38b l E N k0 hk0 _ ih
def f_X1_isFitBy_35 (N : Nat) (k0 : Nat) (m0 : Mem) (x2 : Int32) (x3 : Int32) : Option (Mem × Int32) := (f_X1_isFitBy_38 N k0 N m0 x2 x3 0)
theorem w_X1_isFitBy_35 (l : Launch) (E : EnvT) (N : Nat) (k0 : Nat) (hk0 : kd k0 = 1) (m0 : Mem) (x2 : Int32) (x3 : Int32) : V l E RX1 cX1_isFitBy 6 (some .boolean) (rm_X1_isFitBy) 0 0 (Zm E) rvI (f_X1_isFitBy_35 N k0 m0 x2 x3) m0 35 [(0, .ref (eAd E k0)), (1, .ref (eAd E 1)), (2, .int x2), (3, .int x3)] [] := by
  unfold f_X1_isFitBy_35
  refine v_iconst (v := 0) dX1_isFitBy_35 rfl ?_
  refine v_istore (lv' := [(5, .int 0), (0, .ref (eAd E k0)), (1, .ref (eAd E 1)), (2, .int x2), (3, .int x3)]) dX1_isFitBy_36 (Nat.le_of_ble_eq_true rfl) rfl ?_
  refine v_sub [1, 2, 3, 4, 0] rfl ?_
  exact w_X1_isFitBy_38 l E N k0 hk0 N m0 x2 x3 0
def f_X1_isFitBy (N : Nat) (k0 : Nat) (m0 : Mem) (x2 : Int32) (x3 : Int32) (x4 : Int32) : Option (Mem × Int32) := if (m0 k0 2) < x4 then (some (m0, 0)) else (if x3 ≤ 8 then (if x3 = (m0 k0 4) then (f_X1_isFitBy_35 N k0 m0 x2 x3) else (if x3 = (m0 k0 5) then (f_X1_isFitBy_35 N k0 m0 x2 x3) else (some (m0, 0)))) else (some (m0, 0)))
theorem c_X1_isFitBy (l : Launch) (E : EnvT) (N : Nat) (k0 : Nat) (hk0 : kd k0 = 1) (m0 : Mem) (x2 : Int32) (x3 : Int32) (x4 : Int32) : CT l E yX1_isFitBy cX1_isFitBy 6 (some .boolean) (rm_X1_isFitBy) rvI (f_X1_isFitBy N k0 m0 x2 x3 x4) [.ref (eAd E k0), .ref (eAd E 1), .int x2, .int x3, .int x4] m0 := by
  refine CT.ofV (own := RX1) (by decide) rfl (Nat.le_of_ble_eq_true rfl) ?_
  show V l E RX1 cX1_isFitBy 6 (some .boolean) (rm_X1_isFitBy) 0 0 (Zm E) rvI _ m0 0 [(0, .ref (eAd E k0)), (1, .ref (eAd E 1)), (2, .int x2), (3, .int x3), (4, .int x4)] []
  unfold f_X1_isFitBy
  refine v_iload dX1_isFitBy_0 4 rfl ?_
  refine v_aload_n dX1_isFitBy_2 rfl 0 rfl ?_
  refine gf_X1_most hk0 q128 dX1_isFitBy_3 ?_
  refine v_icmp_gt (tgt := 15) dX1_isFitBy_6 (by decide) ?_ ?_
  · refine v_iconst (v := 0) dX1_isFitBy_15 rfl ?_
    exact v_zret rfl dX1_isFitBy_16
  · refine v_iload_n dX1_isFitBy_9 rfl 3 rfl ?_
    refine v_bipush (v := 8) dX1_isFitBy_10 rfl ?_
    refine v_icmp_le (tgt := 17) dX1_isFitBy_12 (by decide) ?_ ?_
    · refine v_iload_n dX1_isFitBy_17 rfl 3 rfl ?_
      refine v_aload_n dX1_isFitBy_18 rfl 0 rfl ?_
      refine gf_X1_shortLength hk0 q133 dX1_isFitBy_19 ?_
      refine v_icmp_eq (tgt := 35) dX1_isFitBy_22 (by decide) ?_ ?_
      · refine v_sub [0, 1, 2, 3] rfl ?_
        exact w_X1_isFitBy_35 l E N k0 hk0 m0 x2 x3
      · refine v_iload_n dX1_isFitBy_25 rfl 3 rfl ?_
        refine v_aload_n dX1_isFitBy_26 rfl 0 rfl ?_
        refine gf_X1_longLength hk0 q135 dX1_isFitBy_27 ?_
        refine v_icmp_eq (tgt := 35) dX1_isFitBy_30 (by decide) ?_ ?_
        · refine v_sub [0, 1, 2, 3] rfl ?_
          exact w_X1_isFitBy_35 l E N k0 hk0 m0 x2 x3
        · refine v_iconst (v := 0) dX1_isFitBy_33 rfl ?_
          exact v_zret rfl dX1_isFitBy_34
    · refine v_iconst (v := 0) dX1_isFitBy_15 rfl ?_
      exact v_zret rfl dX1_isFitBy_16

def rm_X5_findFrom (d : Nat) : Room := { frames := 2 * d + 10, cells := 0, slots := 0, locals := 56 * d + 200 }
def rm_X5_findByWord (d : Nat) : Room := { frames := 2 * d + 11, cells := 0, slots := 0, locals := 56 * d + 227 }
abbrev RFT : Type := Mem → Int32 → Int32 → Int32 → Option (Mem × Int32)
def hRFT (l : Launch) (E : EnvT) (d : Nat) (RF : RFT) : Prop := ∀ (m : Mem) (x1 x4 x5 : Int32), CT l E yX5_findFrom cX5_findFrom 8 (some .int) (rm_X5_findFrom d) rvI (RF m x1 x4 x5) [.ref (eAd E 3), .int x1, .ref (eAd E 1), .ref (eAd E 39), .int x4, .int x5] m
def f_X5_findByWord_127 (RF : RFT) (N : Nat) (rec_14 : Mem → Int32 → Int32 → Int32 → Int32 → Int32 → Option (Mem × Int32)) (m0 : Mem) (x1 : Int32) (x4 : Int32) (x5 : Int32) (x6 : Int32) (x7 : Int32) : Option (Mem × Int32) := (rec_14 m0 x1 x4 x5 x6 (x7 + 1))
theorem w_X5_findByWord_127 (l : Launch) (E : EnvT) (d : Nat) (RF : RFT) (N : Nat) (hRF : hRFT l E d RF) (rec_14 : Mem → Int32 → Int32 → Int32 → Int32 → Int32 → Option (Mem × Int32)) (hrec_14 : ∀ (m0 : Mem) (x1 : Int32) (x4 : Int32) (x5 : Int32) (x6 : Int32) (x7 : Int32), V l E RX5 cX5_findByWord 10 (some .int) (rm_X5_findByWord d) 0 0 (Zm E) rvI (rec_14 m0 x1 x4 x5 x6 x7) m0 14 [(0, .ref (eAd E 3)), (1, .int x1), (2, .ref (eAd E 1)), (3, .ref (eAd E 39)), (4, .int x4), (5, .int x5), (6, .int x6), (7, .int x7)] []) (m0 : Mem) (x1 : Int32) (x4 : Int32) (x5 : Int32) (x6 : Int32) (x7 : Int32) : V l E RX5 cX5_findByWord 10 (some .int) (rm_X5_findByWord d) 0 0 (Zm E) rvI (f_X5_findByWord_127 RF N rec_14 m0 x1 x4 x5 x6 x7) m0 127 [(0, .ref (eAd E 3)), (1, .int x1), (2, .ref (eAd E 1)), (3, .ref (eAd E 39)), (4, .int x4), (5, .int x5), (6, .int x6), (7, .int x7)] [] := by
  unfold f_X5_findByWord_127
  refine v_iinc (v := (x7 + 1)) (lv' := [(7, .int (x7 + 1)), (0, .ref (eAd E 3)), (1, .int x1), (2, .ref (eAd E 1)), (3, .ref (eAd E 39)), (4, .int x4), (5, .int x5), (6, .int x6)]) dX5_findByWord_127 7 rfl rfl (Nat.le_of_ble_eq_true rfl) rfl ?_
  refine v_goto (tgt := 14) dX5_findByWord_130 (by decide) ?_
  refine v_sub [1, 2, 3, 4, 5, 6, 7, 0] rfl ?_
  exact hrec_14 m0 x1 x4 x5 x6 (x7 + 1)
def f_X5_findByWord_121 (RF : RFT) (N : Nat) (m0 : Mem) (x9 : Int32) (s1 : Int32) : Option (Mem × Int32) := lm (up m0 3 3 s1) (fun m1 => some (m1, x9))
theorem w_X5_findByWord_121 (l : Launch) (E : EnvT) (d : Nat) (RF : RFT) (N : Nat) (hRF : hRFT l E d RF) (m0 : Mem) (x9 : Int32) (s1 : Int32) : V l E RX5 cX5_findByWord 10 (some .int) (rm_X5_findByWord d) 0 0 (Zm E) rvI (f_X5_findByWord_121 RF N m0 x9 s1) m0 121 [(9, .int x9)] [.int s1, .ref (eAd E 3)] := by
  unfold f_X5_findByWord_121
  refine pf_X5_suffix kc3 q158 dX5_findByWord_121 (fun m1 => ?_)
  refine v_iload dX5_findByWord_124 0 rfl ?_
  exact v_iret dX5_findByWord_126
def f_X5_findByWord_14b (RF : RFT) (N : Nat) (rec_14 : Mem → Int32 → Int32 → Int32 → Int32 → Int32 → Option (Mem × Int32)) (m0 : Mem) (x1 : Int32) (x4 : Int32) (x5 : Int32) (x6 : Int32) (x7 : Int32) : Option (Mem × Int32) := if (m0 3 2) ≤ x7 then (some (m0, (-10001))) else (gd (inR x7 16) (if (m0 (6 + 2 * ix x7) 0) = x1 then (gd (inR x4 6) (gd (inR x4 6) (bm (f_X1_isFitBy N (6 + 2 * ix x7) m0 (m0 40 (ix x4)) (m0 41 (ix x4)) x6) (fun m1 r1 => if r1 = 0 then (f_X5_findByWord_127 RF N rec_14 m1 x1 x4 x5 x6 x7) else (bm (RF m1 x7 (x4 + 1) (x5 + 1)) (fun m2 r2 => if r2 = (-10001) then (f_X5_findByWord_127 RF N rec_14 m2 x1 x4 x5 x6 x7) else (if (x4 + 1) = (m2 39 3) then (if r2 = x7 then (f_X5_findByWord_121 RF N m2 r2 (if x6 < 1 then 1 else x6)) else (f_X5_findByWord_121 RF N m2 r2 1)) else (some (m2, r2))))))))) else (f_X5_findByWord_127 RF N rec_14 m0 x1 x4 x5 x6 x7)))
def f_X5_findByWord_14 (RF : RFT) (N : Nat) : Nat → Mem → Int32 → Int32 → Int32 → Int32 → Int32 → Option (Mem × Int32)
  | 0 => fun _ _ _ _ _ _ => none
  | n + 1 => f_X5_findByWord_14b RF N (f_X5_findByWord_14 RF N n)
theorem w_X5_findByWord_14b (l : Launch) (E : EnvT) (d : Nat) (RF : RFT) (N : Nat) (hRF : hRFT l E d RF) (rec_14 : Mem → Int32 → Int32 → Int32 → Int32 → Int32 → Option (Mem × Int32)) (hrec_14 : ∀ (m0 : Mem) (x1 : Int32) (x4 : Int32) (x5 : Int32) (x6 : Int32) (x7 : Int32), V l E RX5 cX5_findByWord 10 (some .int) (rm_X5_findByWord d) 0 0 (Zm E) rvI (rec_14 m0 x1 x4 x5 x6 x7) m0 14 [(0, .ref (eAd E 3)), (1, .int x1), (2, .ref (eAd E 1)), (3, .ref (eAd E 39)), (4, .int x4), (5, .int x5), (6, .int x6), (7, .int x7)] []) (m0 : Mem) (x1 : Int32) (x4 : Int32) (x5 : Int32) (x6 : Int32) (x7 : Int32) : V l E RX5 cX5_findByWord 10 (some .int) (rm_X5_findByWord d) 0 0 (Zm E) rvI (f_X5_findByWord_14b RF N rec_14 m0 x1 x4 x5 x6 x7) m0 14 [(0, .ref (eAd E 3)), (1, .int x1), (2, .ref (eAd E 1)), (3, .ref (eAd E 39)), (4, .int x4), (5, .int x5), (6, .int x6), (7, .int x7)] [] := by
  unfold f_X5_findByWord_14b
  refine v_iload dX5_findByWord_14 7 rfl ?_
  refine v_aload_n dX5_findByWord_16 rfl 0 rfl ?_
  refine gf_X5_count kc3 q157 dX5_findByWord_17 ?_
  refine v_icmp_ge (tgt := 133) dX5_findByWord_20 (by decide) ?_ ?_
  · refine v_sipush (v := (-10001)) dX5_findByWord_133 rfl ?_
    exact v_iret dX5_findByWord_136
  · refine v_aload_n dX5_findByWord_23 rfl 0 rfl ?_
    refine gf_X5_nodes kc3 q154 dX5_findByWord_24 ?_
    refine v_iload dX5_findByWord_27 7 rfl ?_
    refine v_gd (fun g29 => ?_)
    refine v_aldN g29 dX5_findByWord_29 ?_
    refine v_astore (lv' := [(8, .ref (eAd E (6 + 2 * ix x7))), (0, .ref (eAd E 3)), (1, .int x1), (2, .ref (eAd E 1)), (3, .ref (eAd E 39)), (4, .int x4), (5, .int x5), (6, .int x6), (7, .int x7)]) dX5_findByWord_30 (Nat.le_of_ble_eq_true rfl) rfl ?_
    refine v_aload dX5_findByWord_32 0 rfl ?_
    refine gf_X1_parent (knd g29) q124 dX5_findByWord_34 ?_
    refine v_iload_n dX5_findByWord_37 rfl 2 rfl ?_
    refine v_icmp_ne (tgt := 127) dX5_findByWord_38 (by decide) ?_ ?_
    · refine v_sub [1, 2, 3, 4, 5, 6, 7, 8] rfl ?_
      exact w_X5_findByWord_127 l E d RF N hRF rec_14 hrec_14 m0 x1 x4 x5 x6 x7
    · refine v_aload dX5_findByWord_41 0 rfl ?_
      refine v_aload_n dX5_findByWord_43 rfl 3 rfl ?_
      refine v_aload_n dX5_findByWord_44 rfl 4 rfl ?_
      refine gf_X7_starts kc39 q182 dX5_findByWord_45 ?_
      refine v_iload dX5_findByWord_48 5 rfl ?_
      refine v_gd (fun g50 => ?_)
      refine v_iald kc40 rfl g50 dX5_findByWord_50 ?_
      refine v_aload_n dX5_findByWord_51 rfl 4 rfl ?_
      refine gf_X7_lengths kc39 q184 dX5_findByWord_52 ?_
      refine v_iload dX5_findByWord_55 5 rfl ?_
      refine v_gd (fun g57 => ?_)
      refine v_iald kc41 rfl g57 dX5_findByWord_57 ?_
      refine v_iload dX5_findByWord_58 7 rfl ?_
      refine v_callVi (q := (6 + 2 * ix x7)) (ci := 1) (C := RX1) (T := TX1) (NN := 7) (As := [.ref (eAd E 1), .int (m0 40 (ix x4)), .int (m0 41 (ix x4)), .int x6]) (rest := []) (c_X1_isFitBy l E N (6 + 2 * ix x7) (knd g29) m0 (m0 40 (ix x4)) (m0 41 (ix x4)) x6) kv_X1_isFitBy (knd g29) (by decide) rfl q687 ⟨rfl, rfl⟩ ⟨by first | (simp only [rm_X5_findFrom, rm_X5_findByWord, rm_X1_isFitBy]; omega) | (simp only [rm_X5_findFrom, rm_X5_findByWord, rm_X1_isFitBy]; done) | decide, by first | (simp only [rm_X5_findFrom, rm_X5_findByWord, rm_X1_isFitBy]; omega) | (simp only [rm_X5_findFrom, rm_X5_findByWord, rm_X1_isFitBy]; done) | decide⟩ ⟨Nat.zero_le _, Nat.zero_le _⟩ rfl rfl (Nat.le_of_ble_eq_true rfl) dX5_findByWord_60 (fun m1 r1 => ?_)
      refine v_if_eq (tgt := 127) dX5_findByWord_63 (by decide) ?_ ?_
      · refine v_sub [1, 2, 3, 4, 5, 6, 7, 8] rfl ?_
        exact w_X5_findByWord_127 l E d RF N hRF rec_14 hrec_14 m1 x1 x4 x5 x6 x7
      · refine v_aload_n dX5_findByWord_66 rfl 1 rfl ?_
        refine v_iload dX5_findByWord_67 8 rfl ?_
        refine v_aload_n dX5_findByWord_69 rfl 3 rfl ?_
        refine v_aload_n dX5_findByWord_70 rfl 4 rfl ?_
        refine v_iload dX5_findByWord_71 5 rfl ?_
        refine v_iconst (v := 1) dX5_findByWord_73 rfl ?_
        refine v_iadd dX5_findByWord_74 ?_
        refine v_iload dX5_findByWord_75 6 rfl ?_
        refine v_iconst (v := 1) dX5_findByWord_77 rfl ?_
        refine v_iadd dX5_findByWord_78 ?_
        refine v_callVi (q := 3) (ci := 5) (C := RX5) (T := TX5) (NN := 4) (As := [.int x7, .ref (eAd E 1), .ref (eAd E 39), .int (x4 + 1), .int (x5 + 1)]) (rest := []) (hRF m1 x7 (x4 + 1) (x5 + 1)) kv_X5_findFrom kc3 (by decide) rfl q679 ⟨rfl, rfl⟩ ⟨by first | (simp only [rm_X5_findFrom, rm_X5_findByWord, rm_X1_isFitBy]; omega) | (simp only [rm_X5_findFrom, rm_X5_findByWord, rm_X1_isFitBy]; done) | decide, by first | (simp only [rm_X5_findFrom, rm_X5_findByWord, rm_X1_isFitBy]; omega) | (simp only [rm_X5_findFrom, rm_X5_findByWord, rm_X1_isFitBy]; done) | decide⟩ ⟨Nat.zero_le _, Nat.zero_le _⟩ rfl rfl (Nat.le_of_ble_eq_true rfl) dX5_findByWord_79 (fun m2 r2 => ?_)
        refine v_istore (lv' := [(9, .int r2), (8, .ref (eAd E (6 + 2 * ix x7))), (0, .ref (eAd E 3)), (1, .int x1), (2, .ref (eAd E 1)), (3, .ref (eAd E 39)), (4, .int x4), (5, .int x5), (6, .int x6), (7, .int x7)]) dX5_findByWord_82 (Nat.le_of_ble_eq_true rfl) rfl ?_
        refine v_iload dX5_findByWord_84 0 rfl ?_
        refine v_sipush (v := (-10001)) dX5_findByWord_86 rfl ?_
        refine v_icmp_eq (tgt := 127) dX5_findByWord_89 (by decide) ?_ ?_
        · refine v_sub [2, 3, 4, 5, 6, 7, 8, 9] rfl ?_
          exact w_X5_findByWord_127 l E d RF N hRF rec_14 hrec_14 m2 x1 x4 x5 x6 x7
        · refine v_iload dX5_findByWord_92 6 rfl ?_
          refine v_iconst (v := 1) dX5_findByWord_94 rfl ?_
          refine v_iadd dX5_findByWord_95 ?_
          refine v_aload_n dX5_findByWord_96 rfl 5 rfl ?_
          refine gf_X7_count kc39 q189 dX5_findByWord_97 ?_
          refine v_icmp_ne (tgt := 124) dX5_findByWord_100 (by decide) ?_ ?_
          · refine v_iload dX5_findByWord_124 0 rfl ?_
            exact v_iret dX5_findByWord_126
          · refine v_aload_n dX5_findByWord_103 rfl 2 rfl ?_
            refine v_iload dX5_findByWord_104 0 rfl ?_
            refine v_iload dX5_findByWord_106 9 rfl ?_
            refine v_icmp_ne (tgt := 120) dX5_findByWord_108 (by decide) ?_ ?_
            · refine v_iconst (v := 1) dX5_findByWord_120 rfl ?_
              refine v_sub [0] rfl ?_
              exact w_X5_findByWord_121 l E d RF N hRF m2 r2 1
            · refine v_iload dX5_findByWord_111 8 rfl ?_
              refine v_iconst (v := 1) dX5_findByWord_113 rfl ?_
              refine v_mmax q691 q244 q78 q245 (Nat.le_of_ble_eq_true rfl) (Nat.le_of_ble_eq_true rfl) ⟨Nat.zero_le _, Nat.zero_le _⟩ dX5_findByWord_114 ?_
              refine v_goto (tgt := 121) dX5_findByWord_117 (by decide) ?_
              refine v_sub [0] rfl ?_
              exact w_X5_findByWord_121 l E d RF N hRF m2 r2 (if x6 < 1 then 1 else x6)
theorem w_X5_findByWord_14 (l : Launch) (E : EnvT) (d : Nat) (RF : RFT) (N : Nat) (hRF : hRFT l E d RF) : ∀ (n : Nat) (m0 : Mem) (x1 : Int32) (x4 : Int32) (x5 : Int32) (x6 : Int32) (x7 : Int32), V l E RX5 cX5_findByWord 10 (some .int) (rm_X5_findByWord d) 0 0 (Zm E) rvI (f_X5_findByWord_14 RF N n m0 x1 x4 x5 x6 x7) m0 14 [(0, .ref (eAd E 3)), (1, .int x1), (2, .ref (eAd E 1)), (3, .ref (eAd E 39)), (4, .int x4), (5, .int x5), (6, .int x6), (7, .int x7)] [] := by
  intro n
  induction n with
  | zero => intros; exact v_none
  | succ n ih => exact w_X5_findByWord_14b l E d RF N hRF _ ih
def f_X5_findByWord (RF : RFT) (N : Nat) (m0 : Mem) (x1 : Int32) (x4 : Int32) (x5 : Int32) : Option (Mem × Int32) := gd (inR x4 6) ((f_X5_findByWord_14 RF N N m0 x1 x4 x5 (m0 42 (ix x4)) (x1 + 1)))
theorem c_X5_findByWord (l : Launch) (E : EnvT) (d : Nat) (RF : RFT) (N : Nat) (hRF : hRFT l E d RF) (m0 : Mem) (x1 : Int32) (x4 : Int32) (x5 : Int32) : CT l E yX5_findByWord cX5_findByWord 10 (some .int) (rm_X5_findByWord d) rvI (f_X5_findByWord RF N m0 x1 x4 x5) [.ref (eAd E 3), .int x1, .ref (eAd E 1), .ref (eAd E 39), .int x4, .int x5] m0 := by
  refine CT.ofV (own := RX5) (by decide) rfl (Nat.le_of_ble_eq_true rfl) ?_
  show V l E RX5 cX5_findByWord 10 (some .int) (rm_X5_findByWord d) 0 0 (Zm E) rvI _ m0 0 [(0, .ref (eAd E 3)), (1, .int x1), (2, .ref (eAd E 1)), (3, .ref (eAd E 39)), (4, .int x4), (5, .int x5)] []
  unfold f_X5_findByWord
  refine v_aload_n dX5_findByWord_0 rfl 3 rfl ?_
  refine gf_X7_figures kc39 q186 dX5_findByWord_1 ?_
  refine v_iload dX5_findByWord_4 4 rfl ?_
  refine v_gd (fun g6 => ?_)
  refine v_iald kc42 rfl g6 dX5_findByWord_6 ?_
  refine v_istore (lv' := [(6, .int (m0 42 (ix x4))), (0, .ref (eAd E 3)), (1, .int x1), (2, .ref (eAd E 1)), (3, .ref (eAd E 39)), (4, .int x4), (5, .int x5)]) dX5_findByWord_7 (Nat.le_of_ble_eq_true rfl) rfl ?_
  refine v_iload_n dX5_findByWord_9 rfl 2 rfl ?_
  refine v_iconst (v := 1) dX5_findByWord_10 rfl ?_
  refine v_iadd dX5_findByWord_11 ?_
  refine v_istore (lv' := [(7, .int (x1 + 1)), (6, .int (m0 42 (ix x4))), (0, .ref (eAd E 3)), (1, .int x1), (2, .ref (eAd E 1)), (3, .ref (eAd E 39)), (4, .int x4), (5, .int x5)]) dX5_findByWord_12 (Nat.le_of_ble_eq_true rfl) rfl ?_
  refine v_sub [2, 3, 4, 5, 6, 7, 1, 0] rfl ?_
  exact w_X5_findByWord_14 l E d RF N hRF N m0 x1 x4 x5 (m0 42 (ix x4)) (x1 + 1)


def f_X5_findFrom_157 (RF : RFT) (N : Nat) (rec_93 : Mem → Int32 → Int32 → Int32 → Int32 → Option (Mem × Int32)) (m0 : Mem) (x1 : Int32) (x4 : Int32) (x5 : Int32) (x6 : Int32) : Option (Mem × Int32) := (rec_93 m0 x1 x4 x5 (x6 + 1))
theorem w_X5_findFrom_157 (l : Launch) (E : EnvT) (d : Nat) (RF : RFT) (N : Nat) (hRF : hRFT l E d RF) (rec_93 : Mem → Int32 → Int32 → Int32 → Int32 → Option (Mem × Int32)) (hrec_93 : ∀ (m0 : Mem) (x1 : Int32) (x4 : Int32) (x5 : Int32) (x6 : Int32), V l E RX5 cX5_findFrom 8 (some .int) (rm_X5_findFrom (d + 1)) 0 0 (Zm E) rvI (rec_93 m0 x1 x4 x5 x6) m0 93 [(0, .ref (eAd E 3)), (1, .int x1), (2, .ref (eAd E 1)), (3, .ref (eAd E 39)), (4, .int x4), (5, .int x5), (6, .int x6)] []) (m0 : Mem) (x1 : Int32) (x4 : Int32) (x5 : Int32) (x6 : Int32) : V l E RX5 cX5_findFrom 8 (some .int) (rm_X5_findFrom (d + 1)) 0 0 (Zm E) rvI (f_X5_findFrom_157 RF N rec_93 m0 x1 x4 x5 x6) m0 157 [(0, .ref (eAd E 3)), (1, .int x1), (2, .ref (eAd E 1)), (3, .ref (eAd E 39)), (4, .int x4), (5, .int x5), (6, .int x6)] [] := by
  unfold f_X5_findFrom_157
  refine v_iinc (v := (x6 + 1)) (lv' := [(6, .int (x6 + 1)), (0, .ref (eAd E 3)), (1, .int x1), (2, .ref (eAd E 1)), (3, .ref (eAd E 39)), (4, .int x4), (5, .int x5)]) dX5_findFrom_157 6 rfl rfl (Nat.le_of_ble_eq_true rfl) rfl ?_
  refine v_goto (tgt := 93) dX5_findFrom_160 (by decide) ?_
  refine v_sub [1, 2, 3, 4, 5, 6, 0] rfl ?_
  exact hrec_93 m0 x1 x4 x5 (x6 + 1)
def f_X5_findFrom_93b (RF : RFT) (N : Nat) (rec_93 : Mem → Int32 → Int32 → Int32 → Int32 → Option (Mem × Int32)) (m0 : Mem) (x1 : Int32) (x4 : Int32) (x5 : Int32) (x6 : Int32) : Option (Mem × Int32) := if (m0 3 2) ≤ x6 then (gd (inR x1 16) (gd (inR x1 16) (lm (up m0 5 (ix x1) ((m0 5 (ix x1)) ||| (1 <<< (x4 &&& 31)))) (fun m1 => some (m1, (-10001)))))) else (gd (inR x6 16) (if (m0 (6 + 2 * ix x6) 0) = x1 then (gd (inR x6 16) (if (m0 (6 + 2 * ix x6) 3) = 1 then (bm (RF m0 x6 x4 (x5 + 1)) (fun m2 r2 => if r2 = (-10001) then (f_X5_findFrom_157 RF N rec_93 m2 x1 x4 x5 x6) else (some (m2, r2)))) else (f_X5_findFrom_157 RF N rec_93 m0 x1 x4 x5 x6))) else (f_X5_findFrom_157 RF N rec_93 m0 x1 x4 x5 x6)))
def f_X5_findFrom_93 (RF : RFT) (N : Nat) : Nat → Mem → Int32 → Int32 → Int32 → Int32 → Option (Mem × Int32)
  | 0 => fun _ _ _ _ _ => none
  | n + 1 => f_X5_findFrom_93b RF N (f_X5_findFrom_93 RF N n)
theorem w_X5_findFrom_93b (l : Launch) (E : EnvT) (d : Nat) (RF : RFT) (N : Nat) (hRF : hRFT l E d RF) (rec_93 : Mem → Int32 → Int32 → Int32 → Int32 → Option (Mem × Int32)) (hrec_93 : ∀ (m0 : Mem) (x1 : Int32) (x4 : Int32) (x5 : Int32) (x6 : Int32), V l E RX5 cX5_findFrom 8 (some .int) (rm_X5_findFrom (d + 1)) 0 0 (Zm E) rvI (rec_93 m0 x1 x4 x5 x6) m0 93 [(0, .ref (eAd E 3)), (1, .int x1), (2, .ref (eAd E 1)), (3, .ref (eAd E 39)), (4, .int x4), (5, .int x5), (6, .int x6)] []) (m0 : Mem) (x1 : Int32) (x4 : Int32) (x5 : Int32) (x6 : Int32) : V l E RX5 cX5_findFrom 8 (some .int) (rm_X5_findFrom (d + 1)) 0 0 (Zm E) rvI (f_X5_findFrom_93b RF N rec_93 m0 x1 x4 x5 x6) m0 93 [(0, .ref (eAd E 3)), (1, .int x1), (2, .ref (eAd E 1)), (3, .ref (eAd E 39)), (4, .int x4), (5, .int x5), (6, .int x6)] [] := by
  unfold f_X5_findFrom_93b
  refine v_iload dX5_findFrom_93 6 rfl ?_
  refine v_aload_n dX5_findFrom_95 rfl 0 rfl ?_
  refine gf_X5_count kc3 q157 dX5_findFrom_96 ?_
  refine v_icmp_ge (tgt := 163) dX5_findFrom_99 (by decide) ?_ ?_
  · refine v_aload_n dX5_findFrom_163 rfl 0 rfl ?_
    refine gf_X5_deadEnds kc3 q156 dX5_findFrom_164 ?_
    refine v_iload_n dX5_findFrom_167 rfl 1 rfl ?_
    refine v_dup2 dX5_findFrom_168 rfl rfl ?_
    refine v_gd (fun g169 => ?_)
    refine v_iald kc5 rfl g169 dX5_findFrom_169 ?_
    refine v_iconst (v := 1) dX5_findFrom_170 rfl ?_
    refine v_iload dX5_findFrom_171 4 rfl ?_
    refine v_ishl dX5_findFrom_173 ?_
    refine v_ior dX5_findFrom_174 ?_
    refine v_gd (fun g175 => ?_)
    refine v_iast kc5 rfl g175 dX5_findFrom_175 (fun m1 => ?_)
    refine v_sipush (v := (-10001)) dX5_findFrom_176 rfl ?_
    exact v_iret dX5_findFrom_179
  · refine v_aload_n dX5_findFrom_102 rfl 0 rfl ?_
    refine gf_X5_nodes kc3 q154 dX5_findFrom_103 ?_
    refine v_iload dX5_findFrom_106 6 rfl ?_
    refine v_gd (fun g108 => ?_)
    refine v_aldN g108 dX5_findFrom_108 ?_
    refine gf_X1_parent (knd g108) q124 dX5_findFrom_109 ?_
    refine v_iload_n dX5_findFrom_112 rfl 1 rfl ?_
    refine v_icmp_ne (tgt := 157) dX5_findFrom_113 (by decide) ?_ ?_
    · exact w_X5_findFrom_157 l E d RF N hRF rec_93 hrec_93 m0 x1 x4 x5 x6
    · refine v_aload_n dX5_findFrom_116 rfl 0 rfl ?_
      refine gf_X5_nodes kc3 q154 dX5_findFrom_117 ?_
      refine v_iload dX5_findFrom_120 6 rfl ?_
      refine v_gd (fun g122 => ?_)
      refine v_aldN g122 dX5_findFrom_122 ?_
      refine gf_X1_leftOut (knd g122) q132 dX5_findFrom_123 ?_
      refine v_iconst (v := 1) dX5_findFrom_126 rfl ?_
      refine v_icmp_ne (tgt := 157) dX5_findFrom_127 (by decide) ?_ ?_
      · exact w_X5_findFrom_157 l E d RF N hRF rec_93 hrec_93 m0 x1 x4 x5 x6
      · refine v_aload_n dX5_findFrom_130 rfl 0 rfl ?_
        refine v_iload dX5_findFrom_131 6 rfl ?_
        refine v_aload_n dX5_findFrom_133 rfl 2 rfl ?_
        refine v_aload_n dX5_findFrom_134 rfl 3 rfl ?_
        refine v_iload dX5_findFrom_135 4 rfl ?_
        refine v_iload dX5_findFrom_137 5 rfl ?_
        refine v_iconst (v := 1) dX5_findFrom_139 rfl ?_
        refine v_iadd dX5_findFrom_140 ?_
        refine v_callVi (q := 3) (ci := 5) (C := RX5) (T := TX5) (NN := 4) (As := [.int x6, .ref (eAd E 1), .ref (eAd E 39), .int x4, .int (x5 + 1)]) (rest := []) (hRF m0 x6 x4 (x5 + 1)) kv_X5_findFrom kc3 (by decide) rfl q679 ⟨rfl, rfl⟩ ⟨by first | (simp only [rm_X5_findFrom, rm_X5_findByWord, rm_X1_isFitBy]; omega) | (simp only [rm_X5_findFrom, rm_X5_findByWord, rm_X1_isFitBy]; done) | decide, by first | (simp only [rm_X5_findFrom, rm_X5_findByWord, rm_X1_isFitBy]; omega) | (simp only [rm_X5_findFrom, rm_X5_findByWord, rm_X1_isFitBy]; done) | decide⟩ ⟨Nat.zero_le _, Nat.zero_le _⟩ rfl rfl (Nat.le_of_ble_eq_true rfl) dX5_findFrom_141 (fun m2 r2 => ?_)
        refine v_istore (lv' := [(7, .int r2), (0, .ref (eAd E 3)), (1, .int x1), (2, .ref (eAd E 1)), (3, .ref (eAd E 39)), (4, .int x4), (5, .int x5), (6, .int x6)]) dX5_findFrom_144 (Nat.le_of_ble_eq_true rfl) rfl ?_
        refine v_iload dX5_findFrom_146 0 rfl ?_
        refine v_sipush (v := (-10001)) dX5_findFrom_148 rfl ?_
        refine v_icmp_eq (tgt := 157) dX5_findFrom_151 (by decide) ?_ ?_
        · refine v_sub [1, 2, 3, 4, 5, 6, 7] rfl ?_
          exact w_X5_findFrom_157 l E d RF N hRF rec_93 hrec_93 m2 x1 x4 x5 x6
        · refine v_iload dX5_findFrom_154 0 rfl ?_
          exact v_iret dX5_findFrom_156
theorem w_X5_findFrom_93 (l : Launch) (E : EnvT) (d : Nat) (RF : RFT) (N : Nat) (hRF : hRFT l E d RF) : ∀ (n : Nat) (m0 : Mem) (x1 : Int32) (x4 : Int32) (x5 : Int32) (x6 : Int32), V l E RX5 cX5_findFrom 8 (some .int) (rm_X5_findFrom (d + 1)) 0 0 (Zm E) rvI (f_X5_findFrom_93 RF N n m0 x1 x4 x5 x6) m0 93 [(0, .ref (eAd E 3)), (1, .int x1), (2, .ref (eAd E 1)), (3, .ref (eAd E 39)), (4, .int x4), (5, .int x5), (6, .int x6)] [] := by
  intro n
  induction n with
  | zero => intros; exact v_none
  | succ n ih => exact w_X5_findFrom_93b l E d RF N hRF _ ih
def f_X5_findFrom_88 (RF : RFT) (N : Nat) (m0 : Mem) (x1 : Int32) (x4 : Int32) (x5 : Int32) : Option (Mem × Int32) := (f_X5_findFrom_93 RF N N m0 x1 x4 x5 (x1 + 1))
theorem w_X5_findFrom_88 (l : Launch) (E : EnvT) (d : Nat) (RF : RFT) (N : Nat) (hRF : hRFT l E d RF) (m0 : Mem) (x1 : Int32) (x4 : Int32) (x5 : Int32) : V l E RX5 cX5_findFrom 8 (some .int) (rm_X5_findFrom (d + 1)) 0 0 (Zm E) rvI (f_X5_findFrom_88 RF N m0 x1 x4 x5) m0 88 [(0, .ref (eAd E 3)), (1, .int x1), (2, .ref (eAd E 1)), (3, .ref (eAd E 39)), (4, .int x4), (5, .int x5)] [] := by
  unfold f_X5_findFrom_88
  refine v_iload_n dX5_findFrom_88 rfl 1 rfl ?_
  refine v_iconst (v := 1) dX5_findFrom_89 rfl ?_
  refine v_iadd dX5_findFrom_90 ?_
  refine v_istore (lv' := [(6, .int (x1 + 1)), (0, .ref (eAd E 3)), (1, .int x1), (2, .ref (eAd E 1)), (3, .ref (eAd E 39)), (4, .int x4), (5, .int x5)]) dX5_findFrom_91 (Nat.le_of_ble_eq_true rfl) rfl ?_
  refine v_sub [1, 2, 3, 4, 5, 6, 0] rfl ?_
  exact w_X5_findFrom_93 l E d RF N hRF N m0 x1 x4 x5 (x1 + 1)
def f_X5_findFrom_48 (RF : RFT) (N : Nat) (m0 : Mem) (x1 : Int32) (x4 : Int32) (x5 : Int32) : Option (Mem × Int32) := if (m0 39 3) ≤ x4 then (f_X5_findFrom_88 RF N m0 x1 x4 x5) else (if 6 ≤ x4 then (f_X5_findFrom_88 RF N m0 x1 x4 x5) else (bm (f_X5_findByWord RF N m0 x1 x4 x5) (fun m1 r1 => if r1 = (-10001) then (f_X5_findFrom_88 RF N m1 x1 x4 x5) else (some (m1, r1)))))
theorem w_X5_findFrom_48 (l : Launch) (E : EnvT) (d : Nat) (RF : RFT) (N : Nat) (hRF : hRFT l E d RF) (m0 : Mem) (x1 : Int32) (x4 : Int32) (x5 : Int32) : V l E RX5 cX5_findFrom 8 (some .int) (rm_X5_findFrom (d + 1)) 0 0 (Zm E) rvI (f_X5_findFrom_48 RF N m0 x1 x4 x5) m0 48 [(0, .ref (eAd E 3)), (1, .int x1), (2, .ref (eAd E 1)), (3, .ref (eAd E 39)), (4, .int x4), (5, .int x5)] [] := by
  unfold f_X5_findFrom_48
  refine v_iload dX5_findFrom_48 4 rfl ?_
  refine v_aload_n dX5_findFrom_50 rfl 3 rfl ?_
  refine gf_X7_count kc39 q189 dX5_findFrom_51 ?_
  refine v_icmp_ge (tgt := 88) dX5_findFrom_54 (by decide) ?_ ?_
  · exact w_X5_findFrom_88 l E d RF N hRF m0 x1 x4 x5
  · refine v_iload dX5_findFrom_57 4 rfl ?_
    refine v_bipush (v := 6) dX5_findFrom_59 rfl ?_
    refine v_icmp_ge (tgt := 88) dX5_findFrom_61 (by decide) ?_ ?_
    · exact w_X5_findFrom_88 l E d RF N hRF m0 x1 x4 x5
    · refine v_aload_n dX5_findFrom_64 rfl 0 rfl ?_
      refine v_iload_n dX5_findFrom_65 rfl 1 rfl ?_
      refine v_aload_n dX5_findFrom_66 rfl 2 rfl ?_
      refine v_aload_n dX5_findFrom_67 rfl 3 rfl ?_
      refine v_iload dX5_findFrom_68 4 rfl ?_
      refine v_iload dX5_findFrom_70 5 rfl ?_
      refine v_callVi (q := 3) (ci := 5) (C := RX5) (T := TX5) (NN := 4) (As := [.int x1, .ref (eAd E 1), .ref (eAd E 39), .int x4, .int x5]) (rest := []) (c_X5_findByWord l E d RF N hRF m0 x1 x4 x5) kv_X5_findByWord kc3 (by decide) rfl q683 ⟨rfl, rfl⟩ ⟨by first | (simp only [rm_X5_findFrom, rm_X5_findByWord, rm_X1_isFitBy]; omega) | (simp only [rm_X5_findFrom, rm_X5_findByWord, rm_X1_isFitBy]; done) | decide, by first | (simp only [rm_X5_findFrom, rm_X5_findByWord, rm_X1_isFitBy]; omega) | (simp only [rm_X5_findFrom, rm_X5_findByWord, rm_X1_isFitBy]; done) | decide⟩ ⟨Nat.zero_le _, Nat.zero_le _⟩ rfl rfl (Nat.le_of_ble_eq_true rfl) dX5_findFrom_72 (fun m1 r1 => ?_)
      refine v_istore (lv' := [(6, .int r1), (0, .ref (eAd E 3)), (1, .int x1), (2, .ref (eAd E 1)), (3, .ref (eAd E 39)), (4, .int x4), (5, .int x5)]) dX5_findFrom_75 (Nat.le_of_ble_eq_true rfl) rfl ?_
      refine v_iload dX5_findFrom_77 0 rfl ?_
      refine v_sipush (v := (-10001)) dX5_findFrom_79 rfl ?_
      refine v_icmp_eq (tgt := 88) dX5_findFrom_82 (by decide) ?_ ?_
      · refine v_sub [1, 2, 3, 4, 5, 6] rfl ?_
        exact w_X5_findFrom_88 l E d RF N hRF m1 x1 x4 x5
      · refine v_iload dX5_findFrom_85 0 rfl ?_
        exact v_iret dX5_findFrom_87
def f_X5_findFrom (RF : RFT) (N : Nat) (m0 : Mem) (x1 : Int32) (x4 : Int32) (x5 : Int32) : Option (Mem × Int32) := if 16 < x5 then (some (m0, (-10001))) else (gd (inR x1 16) (if (((m0 5 (ix x1)) >>> (x4 &&& 31)) &&& 1) = 0 then (if x4 < (m0 39 3) then (f_X5_findFrom_48 RF N m0 x1 x4 x5) else (gd (inR x1 16) (if (m0 (6 + 2 * ix x1) 1) = 0 then (f_X5_findFrom_48 RF N m0 x1 x4 x5) else (some (m0, x1))))) else (some (m0, (-10001)))))
theorem c_X5_findFrom (l : Launch) (E : EnvT) (d : Nat) (RF : RFT) (N : Nat) (hRF : hRFT l E d RF) (m0 : Mem) (x1 : Int32) (x4 : Int32) (x5 : Int32) : CT l E yX5_findFrom cX5_findFrom 8 (some .int) (rm_X5_findFrom (d + 1)) rvI (f_X5_findFrom RF N m0 x1 x4 x5) [.ref (eAd E 3), .int x1, .ref (eAd E 1), .ref (eAd E 39), .int x4, .int x5] m0 := by
  refine CT.ofV (own := RX5) (by decide) rfl (Nat.le_of_ble_eq_true rfl) ?_
  show V l E RX5 cX5_findFrom 8 (some .int) (rm_X5_findFrom (d + 1)) 0 0 (Zm E) rvI _ m0 0 [(0, .ref (eAd E 3)), (1, .int x1), (2, .ref (eAd E 1)), (3, .ref (eAd E 39)), (4, .int x4), (5, .int x5)] []
  unfold f_X5_findFrom
  refine v_iload dX5_findFrom_0 5 rfl ?_
  refine v_bipush (v := 16) dX5_findFrom_2 rfl ?_
  refine v_icmp_gt (tgt := 21) dX5_findFrom_4 (by decide) ?_ ?_
  · refine v_sipush (v := (-10001)) dX5_findFrom_21 rfl ?_
    exact v_iret dX5_findFrom_24
  · refine v_aload_n dX5_findFrom_7 rfl 0 rfl ?_
    refine gf_X5_deadEnds kc3 q156 dX5_findFrom_8 ?_
    refine v_iload_n dX5_findFrom_11 rfl 1 rfl ?_
    refine v_gd (fun g12 => ?_)
    refine v_iald kc5 rfl g12 dX5_findFrom_12 ?_
    refine v_iload dX5_findFrom_13 4 rfl ?_
    refine v_ishr dX5_findFrom_15 ?_
    refine v_iconst (v := 1) dX5_findFrom_16 rfl ?_
    refine v_iand dX5_findFrom_17 ?_
    refine v_if_eq (tgt := 25) dX5_findFrom_18 (by decide) ?_ ?_
    · refine v_iload dX5_findFrom_25 4 rfl ?_
      refine v_aload_n dX5_findFrom_27 rfl 3 rfl ?_
      refine gf_X7_count kc39 q189 dX5_findFrom_28 ?_
      refine v_icmp_lt (tgt := 48) dX5_findFrom_31 (by decide) ?_ ?_
      · exact w_X5_findFrom_48 l E d RF N hRF m0 x1 x4 x5
      · refine v_aload_n dX5_findFrom_34 rfl 0 rfl ?_
        refine gf_X5_nodes kc3 q154 dX5_findFrom_35 ?_
        refine v_iload_n dX5_findFrom_38 rfl 1 rfl ?_
        refine v_gd (fun g39 => ?_)
        refine v_aldN g39 dX5_findFrom_39 ?_
        refine gf_X1_kind (knd g39) q127 dX5_findFrom_40 ?_
        refine v_if_eq (tgt := 48) dX5_findFrom_43 (by decide) ?_ ?_
        · exact w_X5_findFrom_48 l E d RF N hRF m0 x1 x4 x5
        · refine v_iload_n dX5_findFrom_46 rfl 1 rfl ?_
          exact v_iret dX5_findFrom_47
    · refine v_sipush (v := (-10001)) dX5_findFrom_21 rfl ?_
      exact v_iret dX5_findFrom_24

def f_findRec (N : Nat) : Nat → RFT
  | 0 => fun _ _ _ _ => none
  | d + 1 => f_X5_findFrom (f_findRec N d) N
theorem c_findRec (l : Launch) (E : EnvT) (N : Nat) : ∀ (d : Nat), hRFT l E d (f_findRec N d) := by
  intro d
  induction d with
  | zero => intro m x1 x4 x5 s1 r1 h; cases h
  | succ d ih => intro m x1 x4 x5; exact c_X5_findFrom l E d (f_findRec N d) N ih m x1 x4 x5

def rm_X5_find : Room := { frames := 71, cells := 0, slots := 0, locals := 1907 }
def f_X5_find_18b (N : Nat) (rec_18 : Mem → Int32 → Option (Mem × Int32)) (m0 : Mem) (x4 : Int32) : Option (Mem × Int32) := if 16 ≤ x4 then (bm (f_findRec N 30 m0 0 0 0) (fun m1 r1 => some (m1, r1))) else (gd (inR x4 16) (lm (up m0 5 (ix x4) 0) (fun m2 => (rec_18 m2 (x4 + 1)))))
def f_X5_find_18 (N : Nat) : Nat → Mem → Int32 → Option (Mem × Int32)
  | 0 => fun _ _ => none
  | n + 1 => f_X5_find_18b N (f_X5_find_18 N n)
theorem w_X5_find_18b (l : Launch) (E : EnvT) (N : Nat) (rec_18 : Mem → Int32 → Option (Mem × Int32)) (hrec_18 : ∀ (m0 : Mem) (x4 : Int32), V l E RX5 cX5_find 5 (some .int) (rm_X5_find) 0 0 (Zm E) rvI (rec_18 m0 x4) m0 18 [(0, .ref (eAd E 3)), (1, .ref (eAd E 1)), (2, .ref (eAd E 39)), (4, .int x4)] []) (m0 : Mem) (x4 : Int32) : V l E RX5 cX5_find 5 (some .int) (rm_X5_find) 0 0 (Zm E) rvI (f_X5_find_18b N rec_18 m0 x4) m0 18 [(0, .ref (eAd E 3)), (1, .ref (eAd E 1)), (2, .ref (eAd E 39)), (4, .int x4)] [] := by
  unfold f_X5_find_18b
  refine v_iload dX5_find_18 3 rfl ?_
  refine v_bipush (v := 16) dX5_find_20 rfl ?_
  refine v_icmp_ge (tgt := 39) dX5_find_22 (by decide) ?_ ?_
  · refine v_aload_n dX5_find_39 rfl 0 rfl ?_
    refine v_iconst (v := 0) dX5_find_40 rfl ?_
    refine v_aload_n dX5_find_41 rfl 1 rfl ?_
    refine v_aload_n dX5_find_42 rfl 2 rfl ?_
    refine v_iconst (v := 0) dX5_find_43 rfl ?_
    refine v_iconst (v := 0) dX5_find_44 rfl ?_
    refine v_callVi (q := 3) (ci := 5) (C := RX5) (T := TX5) (NN := 4) (As := [.int 0, .ref (eAd E 1), .ref (eAd E 39), .int 0, .int 0]) (rest := []) (c_findRec l E N 30 m0 0 0 0) kv_X5_findFrom kc3 (by decide) rfl q679 ⟨rfl, rfl⟩ ⟨by first | (simp only [rm_X5_findFrom, rm_X5_findByWord, rm_X1_isFitBy, rm_X5_find]; omega) | (simp only [rm_X5_findFrom, rm_X5_findByWord, rm_X1_isFitBy, rm_X5_find]; done) | decide, by first | (simp only [rm_X5_findFrom, rm_X5_findByWord, rm_X1_isFitBy, rm_X5_find]; omega) | (simp only [rm_X5_findFrom, rm_X5_findByWord, rm_X1_isFitBy, rm_X5_find]; done) | decide⟩ ⟨Nat.zero_le _, Nat.zero_le _⟩ rfl rfl (Nat.le_of_ble_eq_true rfl) dX5_find_45 (fun m1 r1 => ?_)
    exact v_iret dX5_find_48
  · refine v_aload_n dX5_find_25 rfl 0 rfl ?_
    refine gf_X5_deadEnds kc3 q156 dX5_find_26 ?_
    refine v_iload dX5_find_29 3 rfl ?_
    refine v_iconst (v := 0) dX5_find_31 rfl ?_
    refine v_gd (fun g32 => ?_)
    refine v_iast kc5 rfl g32 dX5_find_32 (fun m2 => ?_)
    refine v_iinc (v := (x4 + 1)) (lv' := [(4, .int (x4 + 1)), (0, .ref (eAd E 3)), (1, .ref (eAd E 1)), (2, .ref (eAd E 39))]) dX5_find_33 3 rfl rfl (Nat.le_of_ble_eq_true rfl) rfl ?_
    refine v_goto (tgt := 18) dX5_find_36 (by decide) ?_
    refine v_sub [1, 2, 3, 0] rfl ?_
    exact hrec_18 m2 (x4 + 1)
theorem w_X5_find_18 (l : Launch) (E : EnvT) (N : Nat) : ∀ (n : Nat) (m0 : Mem) (x4 : Int32), V l E RX5 cX5_find 5 (some .int) (rm_X5_find) 0 0 (Zm E) rvI (f_X5_find_18 N n m0 x4) m0 18 [(0, .ref (eAd E 3)), (1, .ref (eAd E 1)), (2, .ref (eAd E 39)), (4, .int x4)] [] := by
  intro n
  induction n with
  | zero => intros; exact v_none
  | succ n ih => exact w_X5_find_18b l E N _ ih
def f_X5_find (N : Nat) (m0 : Mem) (x3 : Int32) : Option (Mem × Int32) := lm (up m0 3 2 (if 16 < x3 then 16 else x3)) (fun m1 => lm (up m1 3 3 1) (fun m2 => (f_X5_find_18 N N m2 0)))
theorem c_X5_find (l : Launch) (E : EnvT) (N : Nat) (m0 : Mem) (x3 : Int32) : CT l E yX5_find cX5_find 5 (some .int) (rm_X5_find) rvI (f_X5_find N m0 x3) [.ref (eAd E 3), .ref (eAd E 1), .ref (eAd E 39), .int x3] m0 := by
  refine CT.ofV (own := RX5) (by decide) rfl (Nat.le_of_ble_eq_true rfl) ?_
  show V l E RX5 cX5_find 5 (some .int) (rm_X5_find) 0 0 (Zm E) rvI _ m0 0 [(0, .ref (eAd E 3)), (1, .ref (eAd E 1)), (2, .ref (eAd E 39)), (3, .int x3)] []
  unfold f_X5_find
  refine v_aload_n dX5_find_0 rfl 0 rfl ?_
  refine v_iload_n dX5_find_1 rfl 3 rfl ?_
  refine v_bipush (v := 16) dX5_find_2 rfl ?_
  refine v_mmin q676 q677 q78 q678 (Nat.le_of_ble_eq_true rfl) (Nat.le_of_ble_eq_true rfl) ⟨Nat.zero_le _, Nat.zero_le _⟩ dX5_find_4 ?_
  refine pf_X5_count kc3 q157 dX5_find_7 (fun m1 => ?_)
  refine v_aload_n dX5_find_10 rfl 0 rfl ?_
  refine v_iconst (v := 1) dX5_find_11 rfl ?_
  refine pf_X5_suffix kc3 q158 dX5_find_12 (fun m2 => ?_)
  refine v_iconst (v := 0) dX5_find_15 rfl ?_
  refine v_istore (lv' := [(4, .int 0), (0, .ref (eAd E 3)), (1, .ref (eAd E 1)), (2, .ref (eAd E 39)), (3, .int x3)]) dX5_find_16 (Nat.le_of_ble_eq_true rfl) rfl ?_
  refine v_sub [1, 2, 3, 0] rfl ?_
  exact w_X5_find_18 l E N N m2 0

def rm_X6_keepBranch : Room := { frames := 1, cells := 0, slots := 0, locals := 21 }
def f_X6_keepBranch (m0 : Mem) : Option (Mem × Unit) := lm (up m0 38 2 (if ((m0 39 3) - 1) < 0 then 0 else ((m0 39 3) - 1))) (fun m1 => some (m1, ()))
theorem c_X6_keepBranch (l : Launch) (E : EnvT) (m0 : Mem) : CT l E yX6_keepBranch cX6_keepBranch 1 none (rm_X6_keepBranch) rvV (f_X6_keepBranch m0) [.ref (eAd E 38)] m0 := by
  refine CT.ofV (own := RX6) (by decide) rfl (Nat.le_of_ble_eq_true rfl) ?_
  show V l E RX6 cX6_keepBranch 1 none (rm_X6_keepBranch) 0 0 (Zm E) rvV _ m0 0 [(0, .ref (eAd E 38))] []
  unfold f_X6_keepBranch
  refine v_aload_n dX6_keepBranch_0 rfl 0 rfl ?_
  refine v_aload_n dX6_keepBranch_1 rfl 0 rfl ?_
  refine gf_X6_words kc38 q199 dX6_keepBranch_2 ?_
  refine gf_X7_count kc39 q188 dX6_keepBranch_5 ?_
  refine v_iconst (v := 1) dX6_keepBranch_8 rfl ?_
  refine v_isub dX6_keepBranch_9 ?_
  refine v_iconst (v := 0) dX6_keepBranch_10 rfl ?_
  refine v_mmax q696 q244 q78 q245 (Nat.le_of_ble_eq_true rfl) (Nat.le_of_ble_eq_true rfl) ⟨Nat.zero_le _, Nat.zero_le _⟩ dX6_keepBranch_11 ?_
  refine pf_X6_branchCount kc38 q202 dX6_keepBranch_14 (fun m1 => ?_)
  exact v_vret dX6_keepBranch_17

def rm_X3_setNumber : Room := { frames := 2, cells := 0, slots := 0, locals := 46 }
def f_X3_setNumber (k0 : Nat) (m0 : Mem) (x1 : Int32) (x2 : Int32) (x3 : Int32) : Option (Mem × Unit) := gd (inR x1 16) (gd (inR x1 16) (bm (f_X8_isWithin m0 x3 (m0 (k0 + 1) (ix x1)) (m0 (k0 + 2) (ix x1))) (fun m1 r1 => if r1 = 0 then (bm (f_X3_raise k0 m1 (-222)) (fun m2 _ => some (m2, ()))) else (bm (f_X3_putNumber k0 m1 x1 x2 x3) (fun m3 _ => some (m3, ()))))))
theorem c_X3_setNumber (l : Launch) (E : EnvT) (k0 : Nat) (hk0 : isSt k0 = true) (m0 : Mem) (x1 : Int32) (x2 : Int32) (x3 : Int32) : CT l E yX3_setNumber cX3_setNumber 4 none (rm_X3_setNumber) rvV (f_X3_setNumber k0 m0 x1 x2 x3) [.ref (eAd E k0), .int x1, .int x2, .int x3] m0 := by
  refine CT.ofV (own := RX3) (by decide) rfl (Nat.le_of_ble_eq_true rfl) ?_
  show V l E RX3 cX3_setNumber 4 none (rm_X3_setNumber) 0 0 (Zm E) rvV _ m0 0 [(0, .ref (eAd E k0)), (1, .int x1), (2, .int x2), (3, .int x3)] []
  unfold f_X3_setNumber
  refine v_iload_n dX3_setNumber_0 rfl 3 rfl ?_
  refine v_aload_n dX3_setNumber_1 rfl 0 rfl ?_
  refine gf_X3_low (kst hk0) q257 dX3_setNumber_2 ?_
  refine v_iload_n dX3_setNumber_5 rfl 1 rfl ?_
  refine v_gd (fun g6 => ?_)
  refine v_iald (kst1 hk0) (lst1 hk0) g6 dX3_setNumber_6 ?_
  refine v_aload_n dX3_setNumber_7 rfl 0 rfl ?_
  refine gf_X3_high (kst hk0) q259 dX3_setNumber_8 ?_
  refine v_iload_n dX3_setNumber_11 rfl 1 rfl ?_
  refine v_gd (fun g12 => ?_)
  refine v_iald (kst2 hk0) (lst2 hk0) g12 dX3_setNumber_12 ?_
  refine v_callSNi (As := [.int x3, .int (m0 (k0 + 1) (ix x1)), .int (m0 (k0 + 2) (ix x1))]) (rest := []) (c_X8_isWithin l E m0 x3 (m0 (k0 + 1) (ix x1)) (m0 (k0 + 2) (ix x1))) ks_X8_isWithin nq432 ⟨rfl, rfl⟩ ⟨Nat.le_of_ble_eq_true rfl, Nat.le_of_ble_eq_true rfl⟩ ⟨Nat.zero_le _, Nat.zero_le _⟩ rfl rfl (Nat.le_of_ble_eq_true rfl) dX3_setNumber_13 (fun m1 r1 => ?_)
  refine v_if_eq (tgt := 29) dX3_setNumber_16 (by decide) ?_ ?_
  · refine v_aload_n dX3_setNumber_29 rfl 0 rfl ?_
    refine v_sipush (v := (-222)) dX3_setNumber_30 rfl ?_
    refine v_callVv (q := k0) (ci := 3) (C := RX3) (T := TX3) (NN := 17) (As := [.int (-222)]) (rest := []) (c_X3_raise l E k0 hk0 m1 (-222)) kv_X3_raise (kst hk0) (by decide) rfl q637 ⟨rfl, rfl⟩ ⟨Nat.le_of_ble_eq_true rfl, Nat.le_of_ble_eq_true rfl⟩ ⟨Nat.zero_le _, Nat.zero_le _⟩ rfl rfl (Nat.le_of_ble_eq_true rfl) dX3_setNumber_33 (fun m2 _ => ?_)
    exact v_vret dX3_setNumber_36
  · refine v_aload_n dX3_setNumber_19 rfl 0 rfl ?_
    refine v_iload_n dX3_setNumber_20 rfl 1 rfl ?_
    refine v_iload_n dX3_setNumber_21 rfl 2 rfl ?_
    refine v_iload_n dX3_setNumber_22 rfl 3 rfl ?_
    refine v_callVv (q := k0) (ci := 3) (C := RX3) (T := TX3) (NN := 17) (As := [.int x1, .int x2, .int x3]) (rest := []) (c_X3_putNumber l E k0 hk0 m1 x1 x2 x3) kv_X3_putNumber (kst hk0) (by decide) rfl q428 ⟨rfl, rfl⟩ ⟨Nat.le_of_ble_eq_true rfl, Nat.le_of_ble_eq_true rfl⟩ ⟨Nat.zero_le _, Nat.zero_le _⟩ rfl rfl (Nat.le_of_ble_eq_true rfl) dX3_setNumber_23 (fun m3 _ => ?_)
    refine v_goto (tgt := 36) dX3_setNumber_26 (by decide) ?_
    exact v_vret dX3_setNumber_36

def rm_X3_act : Room := { frames := 2, cells := 0, slots := 0, locals := 42 }
def f_X3_act_23 (k0 : Nat) (m0 : Mem) (x1 : Int32) : Option (Mem × Unit) := gd (inR x1 16) (gd (inR x1 16) (lm (up m0 (k0 + 3) (ix x1) ((m0 (k0 + 3) (ix x1)) + 1)) (fun m1 => some (m1, ()))))
theorem w_X3_act_23 (l : Launch) (E : EnvT) (k0 : Nat) (hk0 : isSt k0 = true) (m0 : Mem) (x1 : Int32) : V l E RX3 cX3_act 3 none (rm_X3_act) 0 0 (Zm E) rvV (f_X3_act_23 k0 m0 x1) m0 23 [(0, .ref (eAd E k0)), (1, .int x1)] [] := by
  unfold f_X3_act_23
  refine v_aload_n dX3_act_23 rfl 0 rfl ?_
  refine gf_X3_timesDone (kst hk0) q261 dX3_act_24 ?_
  refine v_iload_n dX3_act_27 rfl 1 rfl ?_
  refine v_dup2 dX3_act_28 rfl rfl ?_
  refine v_gd (fun g29 => ?_)
  refine v_iald (kst3 hk0) (lst3 hk0) g29 dX3_act_29 ?_
  refine v_iconst (v := 1) dX3_act_30 rfl ?_
  refine v_iadd dX3_act_31 ?_
  refine v_gd (fun g32 => ?_)
  refine v_iast (kst3 hk0) (lst3 hk0) g32 dX3_act_32 (fun m1 => ?_)
  exact v_vret dX3_act_33
def f_X3_act (k0 : Nat) (m0 : Mem) (x1 : Int32) (x2 : Int32) : Option (Mem × Unit) := if x2 = 0 then (f_X3_act_23 k0 m0 x1) else (bm (f_X2_add (k0 + 9) m0 x1) (fun m1 r1 => if r1 = 0 then (bm (f_X3_raise k0 m1 (-222)) (fun m2 _ => some (m2, ()))) else (f_X3_act_23 k0 m1 x1)))
theorem c_X3_act (l : Launch) (E : EnvT) (k0 : Nat) (hk0 : isSt k0 = true) (m0 : Mem) (x1 : Int32) (x2 : Int32) : CT l E yX3_act cX3_act 3 none (rm_X3_act) rvV (f_X3_act k0 m0 x1 x2) [.ref (eAd E k0), .int x1, .int x2] m0 := by
  refine CT.ofV (own := RX3) (by decide) rfl (Nat.le_of_ble_eq_true rfl) ?_
  show V l E RX3 cX3_act 3 none (rm_X3_act) 0 0 (Zm E) rvV _ m0 0 [(0, .ref (eAd E k0)), (1, .int x1), (2, .int x2)] []
  unfold f_X3_act
  refine v_iload_n dX3_act_0 rfl 2 rfl ?_
  refine v_if_eq (tgt := 23) dX3_act_1 (by decide) ?_ ?_
  · refine v_sub [0, 1] rfl ?_
    exact w_X3_act_23 l E k0 hk0 m0 x1
  · refine v_aload_n dX3_act_4 rfl 0 rfl ?_
    refine gf_X3_pending (kst hk0) q268 dX3_act_5 ?_
    refine v_iload_n dX3_act_8 rfl 1 rfl ?_
    refine v_callVi (q := (k0 + 9)) (ci := 2) (C := RX2) (T := TX2) (NN := 2) (As := [.int x1]) (rest := []) (c_X2_add l E (k0 + 9) (kst9 hk0) m0 x1) kv_X2_add (kst9 hk0) (by decide) rfl q633 ⟨rfl, rfl⟩ ⟨Nat.le_of_ble_eq_true rfl, Nat.le_of_ble_eq_true rfl⟩ ⟨Nat.zero_le _, Nat.zero_le _⟩ rfl rfl (Nat.le_of_ble_eq_true rfl) dX3_act_9 (fun m1 r1 => ?_)
    refine v_if_ne (tgt := 23) dX3_act_12 (by decide) ?_ ?_
    · refine v_sub [0, 1] rfl ?_
      exact w_X3_act_23 l E k0 hk0 m1 x1
    · refine v_aload_n dX3_act_15 rfl 0 rfl ?_
      refine v_sipush (v := (-222)) dX3_act_16 rfl ?_
      refine v_callVv (q := k0) (ci := 3) (C := RX3) (T := TX3) (NN := 17) (As := [.int (-222)]) (rest := []) (c_X3_raise l E k0 hk0 m1 (-222)) kv_X3_raise (kst hk0) (by decide) rfl q637 ⟨rfl, rfl⟩ ⟨Nat.le_of_ble_eq_true rfl, Nat.le_of_ble_eq_true rfl⟩ ⟨Nat.zero_le _, Nat.zero_le _⟩ rfl rfl (Nat.le_of_ble_eq_true rfl) dX3_act_19 (fun m2 _ => ?_)
      exact v_vret dX3_act_22

def rm_X8_performOrder : Room := { frames := 72, cells := 0, slots := 0, locals := 1931 }
def f_X8_performOrder_171 (N : Nat) (m0 : Mem) (s1 : Int32) (s2 : Int32) : Option (Mem × Int32) := bm (f_X3_act 43 m0 s1 s2) (fun m1 _ => some (m1, 0))
theorem w_X8_performOrder_171 (l : Launch) (E : EnvT) (N : Nat) (m0 : Mem) (s1 : Int32) (s2 : Int32) : V l E RX8 cX8_performOrder 4 (some .int) (rm_X8_performOrder) 0 0 (Zm E) rvI (f_X8_performOrder_171 N m0 s1 s2) m0 171 [] [.int s2, .int s1, .ref (eAd E 43)] := by
  unfold f_X8_performOrder_171
  refine v_callVv (q := 43) (ci := 3) (C := RX3) (T := TX3) (NN := 17) (As := [.int s1, .int s2]) (rest := []) (c_X3_act l E 43 st43 m0 s1 s2) kv_X3_act kc43 (by decide) rfl q701 ⟨rfl, rfl⟩ ⟨Nat.le_of_ble_eq_true rfl, Nat.le_of_ble_eq_true rfl⟩ ⟨Nat.zero_le _, Nat.zero_le _⟩ rfl rfl (Nat.le_of_ble_eq_true rfl) dX8_performOrder_171 (fun m1 _ => ?_)
  refine v_iconst (v := 0) dX8_performOrder_174 rfl ?_
  exact v_iret dX8_performOrder_175
def f_X8_performOrder_110 (N : Nat) (m0 : Mem) (s1 : Int32) : Option (Mem × Int32) := bm (f_X3_reply 43 m0 s1) (fun m1 _ => some (m1, 0))
theorem w_X8_performOrder_110 (l : Launch) (E : EnvT) (N : Nat) (m0 : Mem) (s1 : Int32) : V l E RX8 cX8_performOrder 4 (some .int) (rm_X8_performOrder) 0 0 (Zm E) rvI (f_X8_performOrder_110 N m0 s1) m0 110 [] [.int s1, .ref (eAd E 43)] := by
  unfold f_X8_performOrder_110
  refine v_callVv (q := 43) (ci := 3) (C := RX3) (T := TX3) (NN := 17) (As := [.int s1]) (rest := []) (c_X3_reply l E 43 st43 m0 s1) kv_X3_reply kc43 (by decide) rfl q629 ⟨rfl, rfl⟩ ⟨Nat.le_of_ble_eq_true rfl, Nat.le_of_ble_eq_true rfl⟩ ⟨Nat.zero_le _, Nat.zero_le _⟩ rfl rfl (Nat.le_of_ble_eq_true rfl) dX8_performOrder_110 (fun m1 _ => ?_)
  refine v_goto (tgt := 174) dX8_performOrder_113 (by decide) ?_
  refine v_iconst (v := 0) dX8_performOrder_174 rfl ?_
  exact v_iret dX8_performOrder_175
def f_X8_performOrder (N : Nat) (m0 : Mem) : Option (Mem × Int32) := bm (f_X5_find N m0 (m0 43 0)) (fun m1 r1 => bm (f_X8_isNode m1 r1) (fun m2 r2 => if r2 = 0 then (some (m2, (-113))) else (bm (f_X6_keepBranch m2) (fun m3 _ => bm (f_X8_isValueNode m3 r1) (fun m4 r4 => bm (f_X6_valueFault m4 r4) (fun m5 r5 => if r5 = 0 then (if (m5 38 6) = 0 then (if r4 = 0 then (gd (inR r1 16) (if (m5 (6 + 2 * ix r1) 1) = 3 then (f_X8_performOrder_171 N m5 r1 1) else (f_X8_performOrder_171 N m5 r1 0))) else (bm (f_X3_setNumber 43 m5 r1 (m5 3 3) (m5 38 8)) (fun m6 _ => some (m6, 0)))) else (if r4 = 0 then (gd (inR r1 16) ((f_X8_performOrder_110 N m5 (m5 46 (ix r1))))) else (bm (f_X3_numberOf 43 m5 r1 (m5 3 3)) (fun m7 r7 => (f_X8_performOrder_110 N m7 r7))))) else (some (m5, r5))))))))
theorem c_X8_performOrder (l : Launch) (E : EnvT) (N : Nat) (m0 : Mem) : CT l E yX8_performOrder cX8_performOrder 4 (some .int) (rm_X8_performOrder) rvI (f_X8_performOrder N m0) [.ref (eAd E 0)] m0 := by
  refine CT.ofV (own := RX8) (by decide) rfl (Nat.le_of_ble_eq_true rfl) ?_
  show V l E RX8 cX8_performOrder 4 (some .int) (rm_X8_performOrder) 0 0 (Zm E) rvI _ m0 0 [(0, .ref (eAd E 0))] []
  unfold f_X8_performOrder
  refine v_aload_n dX8_performOrder_0 rfl 0 rfl ?_
  refine gf_X8_tree kc0 q334 dX8_performOrder_1 ?_
  refine v_aload_n dX8_performOrder_4 rfl 0 rfl ?_
  refine gf_X8_text kc0 q333 dX8_performOrder_5 ?_
  refine v_aload_n dX8_performOrder_8 rfl 0 rfl ?_
  refine gf_X8_unit kc0 q335 dX8_performOrder_9 ?_
  refine gf_X6_words kc38 q200 dX8_performOrder_12 ?_
  refine v_aload_n dX8_performOrder_15 rfl 0 rfl ?_
  refine gf_X8_now kc0 q336 dX8_performOrder_16 ?_
  refine gf_X3_nodes kc43 q256 dX8_performOrder_19 ?_
  refine v_callVi (q := 3) (ci := 5) (C := RX5) (T := TX5) (NN := 4) (As := [.ref (eAd E 1), .ref (eAd E 39), .int (m0 43 0)]) (rest := []) (c_X5_find l E N m0 (m0 43 0)) kv_X5_find kc3 (by decide) rfl q672 ⟨rfl, rfl⟩ ⟨Nat.le_of_ble_eq_true rfl, Nat.le_of_ble_eq_true rfl⟩ ⟨Nat.zero_le _, Nat.zero_le _⟩ rfl rfl (Nat.le_of_ble_eq_true rfl) dX8_performOrder_22 (fun m1 r1 => ?_)
  refine v_istore_n (lv' := [(1, .int r1), (0, .ref (eAd E 0))]) dX8_performOrder_25 rfl (Nat.le_of_ble_eq_true rfl) rfl ?_
  refine v_aload_n dX8_performOrder_26 rfl 1 rfl ?_
  refine v_iload_n dX8_performOrder_27 rfl 0 rfl ?_
  refine v_callVi (q := 0) (ci := 8) (C := RX8) (T := TX8) (NN := 8) (As := [.int r1]) (rest := []) (c_X8_isNode l E m1 r1) kv_X8_isNode kc0 (by decide) rfl q366 ⟨rfl, rfl⟩ ⟨Nat.le_of_ble_eq_true rfl, Nat.le_of_ble_eq_true rfl⟩ ⟨Nat.zero_le _, Nat.zero_le _⟩ rfl rfl (Nat.le_of_ble_eq_true rfl) dX8_performOrder_28 (fun m2 r2 => ?_)
  refine v_if_ne (tgt := 37) dX8_performOrder_31 (by decide) ?_ ?_
  · refine v_aload_n dX8_performOrder_37 rfl 1 rfl ?_
    refine gf_X8_unit kc0 q335 dX8_performOrder_38 ?_
    refine v_callVv (q := 38) (ci := 6) (C := RX6) (T := TX6) (NN := 9) (As := []) (rest := []) (c_X6_keepBranch l E m2) kv_X6_keepBranch kc38 (by decide) rfl q692 ⟨rfl, rfl⟩ ⟨Nat.le_of_ble_eq_true rfl, Nat.le_of_ble_eq_true rfl⟩ ⟨Nat.zero_le _, Nat.zero_le _⟩ rfl rfl (Nat.le_of_ble_eq_true rfl) dX8_performOrder_41 (fun m3 _ => ?_)
    refine v_aload_n dX8_performOrder_44 rfl 1 rfl ?_
    refine v_iload_n dX8_performOrder_45 rfl 0 rfl ?_
    refine v_callVi (q := 0) (ci := 8) (C := RX8) (T := TX8) (NN := 8) (As := [.int r1]) (rest := []) (c_X8_isValueNode l E m3 r1) kv_X8_isValueNode kc0 (by decide) rfl q437 ⟨rfl, rfl⟩ ⟨Nat.le_of_ble_eq_true rfl, Nat.le_of_ble_eq_true rfl⟩ ⟨Nat.zero_le _, Nat.zero_le _⟩ rfl rfl (Nat.le_of_ble_eq_true rfl) dX8_performOrder_46 (fun m4 r4 => ?_)
    refine v_istore_n (lv' := [(2, .int r4), (1, .int r1), (0, .ref (eAd E 0))]) dX8_performOrder_49 rfl (Nat.le_of_ble_eq_true rfl) rfl ?_
    refine v_aload_n dX8_performOrder_50 rfl 2 rfl ?_
    refine gf_X8_unit kc0 q335 dX8_performOrder_51 ?_
    refine v_iload_n dX8_performOrder_54 rfl 0 rfl ?_
    refine v_callVi (q := 38) (ci := 6) (C := RX6) (T := TX6) (NN := 9) (As := [.int r4]) (rest := []) (c_X6_valueFault l E m4 r4) kv_X6_valueFault kc38 (by decide) rfl q613 ⟨rfl, rfl⟩ ⟨Nat.le_of_ble_eq_true rfl, Nat.le_of_ble_eq_true rfl⟩ ⟨Nat.zero_le _, Nat.zero_le _⟩ rfl rfl (Nat.le_of_ble_eq_true rfl) dX8_performOrder_55 (fun m5 r5 => ?_)
    refine v_istore_n (lv' := [(3, .int r5), (2, .int r4), (1, .int r1), (0, .ref (eAd E 0))]) dX8_performOrder_58 rfl (Nat.le_of_ble_eq_true rfl) rfl ?_
    refine v_iload_n dX8_performOrder_59 rfl 0 rfl ?_
    refine v_if_eq (tgt := 65) dX8_performOrder_60 (by decide) ?_ ?_
    · refine v_aload_n dX8_performOrder_65 rfl 3 rfl ?_
      refine gf_X8_unit kc0 q335 dX8_performOrder_66 ?_
      refine gf_X6_isQuestion kc38 q208 dX8_performOrder_69 ?_
      refine v_if_eq (tgt := 116) dX8_performOrder_72 (by decide) ?_ ?_
      · refine v_iload_n dX8_performOrder_116 rfl 1 rfl ?_
        refine v_if_eq (tgt := 145) dX8_performOrder_117 (by decide) ?_ ?_
        · refine v_aload_n dX8_performOrder_145 rfl 3 rfl ?_
          refine gf_X8_now kc0 q336 dX8_performOrder_146 ?_
          refine v_iload_n dX8_performOrder_149 rfl 2 rfl ?_
          refine v_aload_n dX8_performOrder_150 rfl 3 rfl ?_
          refine gf_X8_tree kc0 q334 dX8_performOrder_151 ?_
          refine gf_X5_nodes kc3 q155 dX8_performOrder_154 ?_
          refine v_iload_n dX8_performOrder_157 rfl 2 rfl ?_
          refine v_gd (fun g158 => ?_)
          refine v_aldN g158 dX8_performOrder_158 ?_
          refine gf_X1_kind (knd g158) q126 dX8_performOrder_159 ?_
          refine v_iconst (v := 3) dX8_performOrder_162 rfl ?_
          refine v_icmp_ne (tgt := 170) dX8_performOrder_163 (by decide) ?_ ?_
          · refine v_iconst (v := 0) dX8_performOrder_170 rfl ?_
            refine v_sub [] rfl ?_
            exact w_X8_performOrder_171 l E N m5 r1 0
          · refine v_iconst (v := 1) dX8_performOrder_166 rfl ?_
            refine v_goto (tgt := 171) dX8_performOrder_167 (by decide) ?_
            refine v_sub [] rfl ?_
            exact w_X8_performOrder_171 l E N m5 r1 1
        · refine v_aload_n dX8_performOrder_120 rfl 3 rfl ?_
          refine gf_X8_now kc0 q336 dX8_performOrder_121 ?_
          refine v_iload_n dX8_performOrder_124 rfl 2 rfl ?_
          refine v_aload_n dX8_performOrder_125 rfl 3 rfl ?_
          refine gf_X8_tree kc0 q334 dX8_performOrder_126 ?_
          refine gf_X5_suffix kc3 q159 dX8_performOrder_129 ?_
          refine v_aload_n dX8_performOrder_132 rfl 3 rfl ?_
          refine gf_X8_unit kc0 q335 dX8_performOrder_133 ?_
          refine gf_X6_number kc38 q211 dX8_performOrder_136 ?_
          refine v_callVv (q := 43) (ci := 3) (C := RX3) (T := TX3) (NN := 17) (As := [.int r1, .int (m5 3 3), .int (m5 38 8)]) (rest := []) (c_X3_setNumber l E 43 st43 m5 r1 (m5 3 3) (m5 38 8)) kv_X3_setNumber kc43 (by decide) rfl q697 ⟨rfl, rfl⟩ ⟨Nat.le_of_ble_eq_true rfl, Nat.le_of_ble_eq_true rfl⟩ ⟨Nat.zero_le _, Nat.zero_le _⟩ rfl rfl (Nat.le_of_ble_eq_true rfl) dX8_performOrder_139 (fun m6 _ => ?_)
          refine v_goto (tgt := 174) dX8_performOrder_142 (by decide) ?_
          refine v_iconst (v := 0) dX8_performOrder_174 rfl ?_
          exact v_iret dX8_performOrder_175
      · refine v_aload_n dX8_performOrder_75 rfl 3 rfl ?_
        refine gf_X8_now kc0 q336 dX8_performOrder_76 ?_
        refine v_iload_n dX8_performOrder_79 rfl 1 rfl ?_
        refine v_if_eq (tgt := 101) dX8_performOrder_80 (by decide) ?_ ?_
        · refine v_aload_n dX8_performOrder_101 rfl 3 rfl ?_
          refine gf_X8_now kc0 q336 dX8_performOrder_102 ?_
          refine gf_X3_timesDone kc43 q262 dX8_performOrder_105 ?_
          refine v_iload_n dX8_performOrder_108 rfl 2 rfl ?_
          refine v_gd (fun g109 => ?_)
          refine v_iald (kst3 st43) (lst3 st43) g109 dX8_performOrder_109 ?_
          refine v_sub [] rfl ?_
          exact w_X8_performOrder_110 l E N m5 (m5 46 (ix r1))
        · refine v_aload_n dX8_performOrder_83 rfl 3 rfl ?_
          refine gf_X8_now kc0 q336 dX8_performOrder_84 ?_
          refine v_iload_n dX8_performOrder_87 rfl 2 rfl ?_
          refine v_aload_n dX8_performOrder_88 rfl 3 rfl ?_
          refine gf_X8_tree kc0 q334 dX8_performOrder_89 ?_
          refine gf_X5_suffix kc3 q159 dX8_performOrder_92 ?_
          refine v_callVi (q := 43) (ci := 3) (C := RX3) (T := TX3) (NN := 17) (As := [.int r1, .int (m5 3 3)]) (rest := [.ref (eAd E 43)]) (c_X3_numberOf l E 43 st43 m5 r1 (m5 3 3)) kv_X3_numberOf kc43 (by decide) rfl q454 ⟨rfl, rfl⟩ ⟨Nat.le_of_ble_eq_true rfl, Nat.le_of_ble_eq_true rfl⟩ ⟨Nat.zero_le _, Nat.zero_le _⟩ rfl rfl (Nat.le_of_ble_eq_true rfl) dX8_performOrder_95 (fun m7 r7 => ?_)
          refine v_goto (tgt := 110) dX8_performOrder_98 (by decide) ?_
          refine v_sub [] rfl ?_
          exact w_X8_performOrder_110 l E N m7 r7
    · refine v_iload_n dX8_performOrder_63 rfl 0 rfl ?_
      exact v_iret dX8_performOrder_64
  · refine v_bipush (v := (-113)) dX8_performOrder_34 rfl ?_
    exact v_iret dX8_performOrder_36

def rm_X6_passSemicolon : Room := { frames := 1, cells := 0, slots := 0, locals := 21 }
def f_X6_passSemicolon (m0 : Mem) : Option (Mem × Int32) := bm (f_X4_byteAt m0 (m0 38 1)) (fun m1 r1 => if r1 = 59 then (lm (up m1 38 1 ((m1 38 1) + 1)) (fun m2 => some (m2, 1))) else (some (m1, 0)))
theorem c_X6_passSemicolon (l : Launch) (E : EnvT) (m0 : Mem) : CT l E yX6_passSemicolon cX6_passSemicolon 2 (some .boolean) (rm_X6_passSemicolon) rvI (f_X6_passSemicolon m0) [.ref (eAd E 38), .ref (eAd E 1)] m0 := by
  refine CT.ofV (own := RX6) (by decide) rfl (Nat.le_of_ble_eq_true rfl) ?_
  show V l E RX6 cX6_passSemicolon 2 (some .boolean) (rm_X6_passSemicolon) 0 0 (Zm E) rvI _ m0 0 [(0, .ref (eAd E 38)), (1, .ref (eAd E 1))] []
  unfold f_X6_passSemicolon
  refine v_aload_n dX6_passSemicolon_0 rfl 1 rfl ?_
  refine v_aload_n dX6_passSemicolon_1 rfl 0 rfl ?_
  refine gf_X6_at kc38 q201 dX6_passSemicolon_2 ?_
  refine v_callVi (q := 1) (ci := 4) (C := RX4) (T := TX4) (NN := 2) (As := [.int (m0 38 1)]) (rest := []) (c_X4_byteAt l E m0 (m0 38 1)) kv_X4_byteAt kc1 (by decide) rfl q486 ⟨rfl, rfl⟩ ⟨Nat.le_of_ble_eq_true rfl, Nat.le_of_ble_eq_true rfl⟩ ⟨Nat.zero_le _, Nat.zero_le _⟩ rfl rfl (Nat.le_of_ble_eq_true rfl) dX6_passSemicolon_5 (fun m1 r1 => ?_)
  refine v_bipush (v := 59) dX6_passSemicolon_8 rfl ?_
  refine v_icmp_eq (tgt := 15) dX6_passSemicolon_10 (by decide) ?_ ?_
  · refine v_aload_n dX6_passSemicolon_15 rfl 0 rfl ?_
    refine v_dup dX6_passSemicolon_16 rfl ?_
    refine gf_X6_at kc38 q201 dX6_passSemicolon_17 ?_
    refine v_iconst (v := 1) dX6_passSemicolon_20 rfl ?_
    refine v_iadd dX6_passSemicolon_21 ?_
    refine pf_X6_at kc38 q201 dX6_passSemicolon_22 (fun m2 => ?_)
    refine v_iconst (v := 1) dX6_passSemicolon_25 rfl ?_
    exact v_zret rfl dX6_passSemicolon_26
  · refine v_iconst (v := 0) dX6_passSemicolon_13 rfl ?_
    exact v_zret rfl dX6_passSemicolon_14

def rm_X8_sends : Room := { frames := 73, cells := 0, slots := 0, locals := 1954 }
def f_X8_sends_67 (N : Nat) (rec_22 : Mem → Int32 → Int32 → Option (Mem × Int32)) (m0 : Mem) (x1 : Int32) (x2 : Int32) (x3 : Int32) : Option (Mem × Int32) := if x3 = 0 then (bm (f_X6_passSemicolon m0) (fun m1 r1 => if r1 = 0 then (some (m1, (x1 + 1))) else (rec_22 m1 (x1 + 1) (x2 + 1)))) else (bm (f_X3_raise 43 m0 x3) (fun m2 _ => some (m2, x1)))
theorem w_X8_sends_67 (l : Launch) (E : EnvT) (N : Nat) (rec_22 : Mem → Int32 → Int32 → Option (Mem × Int32)) (hrec_22 : ∀ (m0 : Mem) (x1 : Int32) (x2 : Int32), V l E RX8 cX8_sends 4 (some .int) (rm_X8_sends) 0 0 (Zm E) rvI (rec_22 m0 x1 x2) m0 22 [(0, .ref (eAd E 0)), (1, .int x1), (2, .int x2)] []) (m0 : Mem) (x1 : Int32) (x2 : Int32) (x3 : Int32) : V l E RX8 cX8_sends 4 (some .int) (rm_X8_sends) 0 0 (Zm E) rvI (f_X8_sends_67 N rec_22 m0 x1 x2 x3) m0 67 [(0, .ref (eAd E 0)), (1, .int x1), (2, .int x2), (3, .int x3)] [] := by
  unfold f_X8_sends_67
  refine v_iload_n dX8_sends_67 rfl 3 rfl ?_
  refine v_if_eq (tgt := 81) dX8_sends_68 (by decide) ?_ ?_
  · refine v_iinc (v := (x1 + 1)) (lv' := [(1, .int (x1 + 1)), (0, .ref (eAd E 0)), (2, .int x2), (3, .int x3)]) dX8_sends_81 1 rfl rfl (Nat.le_of_ble_eq_true rfl) rfl ?_
    refine v_aload_n dX8_sends_84 rfl 1 rfl ?_
    refine gf_X8_unit kc0 q335 dX8_sends_85 ?_
    refine v_aload_n dX8_sends_88 rfl 1 rfl ?_
    refine gf_X8_text kc0 q333 dX8_sends_89 ?_
    refine v_callVi (q := 38) (ci := 6) (C := RX6) (T := TX6) (NN := 9) (As := [.ref (eAd E 1)]) (rest := []) (c_X6_passSemicolon l E m0) kv_X6_passSemicolon kc38 (by decide) rfl q706 ⟨rfl, rfl⟩ ⟨Nat.le_of_ble_eq_true rfl, Nat.le_of_ble_eq_true rfl⟩ ⟨Nat.zero_le _, Nat.zero_le _⟩ rfl rfl (Nat.le_of_ble_eq_true rfl) dX8_sends_92 (fun m1 r1 => ?_)
    refine v_if_ne (tgt := 100) dX8_sends_95 (by decide) ?_ ?_
    · refine v_iinc (v := (x2 + 1)) (lv' := [(2, .int (x2 + 1)), (1, .int (x1 + 1)), (0, .ref (eAd E 0)), (3, .int x3)]) dX8_sends_100 2 rfl rfl (Nat.le_of_ble_eq_true rfl) rfl ?_
      refine v_goto (tgt := 22) dX8_sends_103 (by decide) ?_
      refine v_sub [2, 1, 0] rfl ?_
      exact hrec_22 m1 (x1 + 1) (x2 + 1)
    · refine v_iload_n dX8_sends_98 rfl 0 rfl ?_
      exact v_iret dX8_sends_99
  · refine v_aload_n dX8_sends_71 rfl 0 rfl ?_
    refine gf_X8_now kc0 q336 dX8_sends_72 ?_
    refine v_iload_n dX8_sends_75 rfl 3 rfl ?_
    refine v_callVv (q := 43) (ci := 3) (C := RX3) (T := TX3) (NN := 17) (As := [.int x3]) (rest := []) (c_X3_raise l E 43 st43 m0 x3) kv_X3_raise kc43 (by decide) rfl q705 ⟨rfl, rfl⟩ ⟨Nat.le_of_ble_eq_true rfl, Nat.le_of_ble_eq_true rfl⟩ ⟨Nat.zero_le _, Nat.zero_le _⟩ rfl rfl (Nat.le_of_ble_eq_true rfl) dX8_sends_76 (fun m2 _ => ?_)
    refine v_iload_n dX8_sends_79 rfl 1 rfl ?_
    exact v_iret dX8_sends_80
def f_X8_sends_66 (N : Nat) (rec_22 : Mem → Int32 → Int32 → Option (Mem × Int32)) (m0 : Mem) (x1 : Int32) (x2 : Int32) (s0 : Int32) : Option (Mem × Int32) := (f_X8_sends_67 N rec_22 m0 x1 x2 s0)
theorem w_X8_sends_66 (l : Launch) (E : EnvT) (N : Nat) (rec_22 : Mem → Int32 → Int32 → Option (Mem × Int32)) (hrec_22 : ∀ (m0 : Mem) (x1 : Int32) (x2 : Int32), V l E RX8 cX8_sends 4 (some .int) (rm_X8_sends) 0 0 (Zm E) rvI (rec_22 m0 x1 x2) m0 22 [(0, .ref (eAd E 0)), (1, .int x1), (2, .int x2)] []) (m0 : Mem) (x1 : Int32) (x2 : Int32) (s0 : Int32) : V l E RX8 cX8_sends 4 (some .int) (rm_X8_sends) 0 0 (Zm E) rvI (f_X8_sends_66 N rec_22 m0 x1 x2 s0) m0 66 [(0, .ref (eAd E 0)), (1, .int x1), (2, .int x2)] [.int s0] := by
  unfold f_X8_sends_66
  refine v_istore_n (lv' := [(3, .int s0), (0, .ref (eAd E 0)), (1, .int x1), (2, .int x2)]) dX8_sends_66 rfl (Nat.le_of_ble_eq_true rfl) rfl ?_
  refine v_sub [1, 2, 3, 0] rfl ?_
  exact w_X8_sends_67 l E N rec_22 hrec_22 m0 x1 x2 s0
def f_X8_sends_22b (N : Nat) (rec_22 : Mem → Int32 → Int32 → Option (Mem × Int32)) (m0 : Mem) (x1 : Int32) (x2 : Int32) : Option (Mem × Int32) := if 100 < x2 then (some (m0, x1)) else (bm (f_X6_read N m0) (fun m1 r1 => if r1 = 0 then (f_X8_sends_67 N rec_22 m1 x1 x2 (-102)) else (if (m1 38 3) = 0 then (bm (f_X8_performOrder N m1) (fun m2 r2 => (f_X8_sends_66 N rec_22 m2 x1 x2 r2))) else (bm (f_X8_performCommon N m1) (fun m3 r3 => (f_X8_sends_66 N rec_22 m3 x1 x2 r3))))))
def f_X8_sends_22 (N : Nat) : Nat → Mem → Int32 → Int32 → Option (Mem × Int32)
  | 0 => fun _ _ _ => none
  | n + 1 => f_X8_sends_22b N (f_X8_sends_22 N n)
theorem w_X8_sends_22b (l : Launch) (E : EnvT) (N : Nat) (rec_22 : Mem → Int32 → Int32 → Option (Mem × Int32)) (hrec_22 : ∀ (m0 : Mem) (x1 : Int32) (x2 : Int32), V l E RX8 cX8_sends 4 (some .int) (rm_X8_sends) 0 0 (Zm E) rvI (rec_22 m0 x1 x2) m0 22 [(0, .ref (eAd E 0)), (1, .int x1), (2, .int x2)] []) (m0 : Mem) (x1 : Int32) (x2 : Int32) : V l E RX8 cX8_sends 4 (some .int) (rm_X8_sends) 0 0 (Zm E) rvI (f_X8_sends_22b N rec_22 m0 x1 x2) m0 22 [(0, .ref (eAd E 0)), (1, .int x1), (2, .int x2)] [] := by
  unfold f_X8_sends_22b
  refine v_iload_n dX8_sends_22 rfl 2 rfl ?_
  refine v_bipush (v := 100) dX8_sends_23 rfl ?_
  refine v_icmp_gt (tgt := 106) dX8_sends_25 (by decide) ?_ ?_
  · refine v_iload_n dX8_sends_106 rfl 1 rfl ?_
    exact v_iret dX8_sends_107
  · refine v_bipush (v := (-102)) dX8_sends_28 rfl ?_
    refine v_istore_n (lv' := [(3, .int (-102)), (0, .ref (eAd E 0)), (1, .int x1), (2, .int x2)]) dX8_sends_30 rfl (Nat.le_of_ble_eq_true rfl) rfl ?_
    refine v_aload_n dX8_sends_31 rfl 1 rfl ?_
    refine gf_X8_unit kc0 q335 dX8_sends_32 ?_
    refine v_aload_n dX8_sends_35 rfl 1 rfl ?_
    refine gf_X8_text kc0 q333 dX8_sends_36 ?_
    refine v_callVi (q := 38) (ci := 6) (C := RX6) (T := TX6) (NN := 9) (As := [.ref (eAd E 1)]) (rest := []) (c_X6_read l E N m0) kv_X6_read kc38 (by decide) rfl q478 ⟨rfl, rfl⟩ ⟨Nat.le_of_ble_eq_true rfl, Nat.le_of_ble_eq_true rfl⟩ ⟨Nat.zero_le _, Nat.zero_le _⟩ rfl rfl (Nat.le_of_ble_eq_true rfl) dX8_sends_39 (fun m1 r1 => ?_)
    refine v_if_eq (tgt := 67) dX8_sends_42 (by decide) ?_ ?_
    · refine v_sub [1, 2, 3, 0] rfl ?_
      exact w_X8_sends_67 l E N rec_22 hrec_22 m1 x1 x2 (-102)
    · refine v_aload_n dX8_sends_45 rfl 1 rfl ?_
      refine gf_X8_unit kc0 q335 dX8_sends_46 ?_
      refine gf_X6_isCommon kc38 q204 dX8_sends_49 ?_
      refine v_if_eq (tgt := 62) dX8_sends_52 (by decide) ?_ ?_
      · refine v_aload_n dX8_sends_62 rfl 1 rfl ?_
        refine v_callVi (q := 0) (ci := 8) (C := RX8) (T := TX8) (NN := 8) (As := []) (rest := []) (c_X8_performOrder l E N m1) kv_X8_performOrder kc0 (by decide) rfl q668 ⟨rfl, rfl⟩ ⟨Nat.le_of_ble_eq_true rfl, Nat.le_of_ble_eq_true rfl⟩ ⟨Nat.zero_le _, Nat.zero_le _⟩ rfl rfl (Nat.le_of_ble_eq_true rfl) dX8_sends_63 (fun m2 r2 => ?_)
        refine v_sub [1, 2, 3] rfl ?_
        exact w_X8_sends_66 l E N rec_22 hrec_22 m2 x1 x2 r2
      · refine v_aload_n dX8_sends_55 rfl 1 rfl ?_
        refine v_callVi (q := 0) (ci := 8) (C := RX8) (T := TX8) (NN := 8) (As := []) (rest := []) (c_X8_performCommon l E N m1) kv_X8_performCommon kc0 (by decide) rfl q595 ⟨rfl, rfl⟩ ⟨Nat.le_of_ble_eq_true rfl, Nat.le_of_ble_eq_true rfl⟩ ⟨Nat.zero_le _, Nat.zero_le _⟩ rfl rfl (Nat.le_of_ble_eq_true rfl) dX8_sends_56 (fun m3 r3 => ?_)
        refine v_goto (tgt := 66) dX8_sends_59 (by decide) ?_
        refine v_sub [1, 2, 3] rfl ?_
        exact w_X8_sends_66 l E N rec_22 hrec_22 m3 x1 x2 r3
theorem w_X8_sends_22 (l : Launch) (E : EnvT) (N : Nat) : ∀ (n : Nat) (m0 : Mem) (x1 : Int32) (x2 : Int32), V l E RX8 cX8_sends 4 (some .int) (rm_X8_sends) 0 0 (Zm E) rvI (f_X8_sends_22 N n m0 x1 x2) m0 22 [(0, .ref (eAd E 0)), (1, .int x1), (2, .int x2)] [] := by
  intro n
  induction n with
  | zero => intros; exact v_none
  | succ n ih => exact w_X8_sends_22b l E N _ ih
def f_X8_sends (N : Nat) (m0 : Mem) : Option (Mem × Int32) := bm (f_X0_keep N 43 m0) (fun m1 _ => bm (f_X6_startMessage m1) (fun m2 _ => (f_X8_sends_22 N N m2 0 0)))
theorem c_X8_sends (l : Launch) (E : EnvT) (N : Nat) (m0 : Mem) : CT l E yX8_sends cX8_sends 4 (some .int) (rm_X8_sends) rvI (f_X8_sends N m0) [.ref (eAd E 0)] m0 := by
  refine CT.ofV (own := RX8) (by decide) rfl (Nat.le_of_ble_eq_true rfl) ?_
  show V l E RX8 cX8_sends 4 (some .int) (rm_X8_sends) 0 0 (Zm E) rvI _ m0 0 [(0, .ref (eAd E 0))] []
  unfold f_X8_sends
  refine v_aload_n dX8_sends_0 rfl 0 rfl ?_
  refine gf_X8_history kc0 q337 dX8_sends_1 ?_
  refine v_aload_n dX8_sends_4 rfl 0 rfl ?_
  refine gf_X8_now kc0 q336 dX8_sends_5 ?_
  refine v_callVv (q := 54) (ci := 0) (C := RX0) (T := TX0) (NN := 2) (As := [.ref (eAd E 43)]) (rest := []) (c_X0_keep l E N 43 st43 m0) kv_X0_keep kc54 (by decide) rfl q395 ⟨rfl, rfl⟩ ⟨Nat.le_of_ble_eq_true rfl, Nat.le_of_ble_eq_true rfl⟩ ⟨Nat.zero_le _, Nat.zero_le _⟩ rfl rfl (Nat.le_of_ble_eq_true rfl) dX8_sends_8 (fun m1 _ => ?_)
  refine v_aload_n dX8_sends_11 rfl 0 rfl ?_
  refine gf_X8_unit kc0 q335 dX8_sends_12 ?_
  refine v_callVv (q := 38) (ci := 6) (C := RX6) (T := TX6) (NN := 9) (As := []) (rest := []) (c_X6_startMessage l E m1) kv_X6_startMessage kc38 (by decide) rfl q474 ⟨rfl, rfl⟩ ⟨Nat.le_of_ble_eq_true rfl, Nat.le_of_ble_eq_true rfl⟩ ⟨Nat.zero_le _, Nat.zero_le _⟩ rfl rfl (Nat.le_of_ble_eq_true rfl) dX8_sends_15 (fun m2 _ => ?_)
  refine v_iconst (v := 0) dX8_sends_18 rfl ?_
  refine v_istore_n (lv' := [(1, .int 0), (0, .ref (eAd E 0))]) dX8_sends_19 rfl (Nat.le_of_ble_eq_true rfl) rfl ?_
  refine v_iconst (v := 0) dX8_sends_20 rfl ?_
  refine v_istore_n (lv' := [(2, .int 0), (1, .int 0), (0, .ref (eAd E 0))]) dX8_sends_21 rfl (Nat.le_of_ble_eq_true rfl) rfl ?_
  refine v_sub [2, 1, 0] rfl ?_
  exact w_X8_sends_22 l E N N m2 0 0

def rm_X6_readRowAlone : Room := { frames := 4, cells := 0, slots := 0, locals := 89 }
def f_X6_readRowAlone (N : Nat) (m0 : Mem) : Option (Mem × Int32) := lm (up m0 38 1 0) (fun m1 => lm (up m1 39 3 0) (fun m2 => bm (f_X6_readWords N m2) (fun m3 r3 => if r3 = 0 then (some (m3, 0)) else (bm (f_X4_byteAt m3 (m3 38 1)) (fun m4 r4 => if r4 = (-1) then (some (m4, 1)) else (some (m4, 0)))))))
theorem c_X6_readRowAlone (l : Launch) (E : EnvT) (N : Nat) (m0 : Mem) : CT l E yX6_readRowAlone cX6_readRowAlone 2 (some .boolean) (rm_X6_readRowAlone) rvI (f_X6_readRowAlone N m0) [.ref (eAd E 38), .ref (eAd E 1)] m0 := by
  refine CT.ofV (own := RX6) (by decide) rfl (Nat.le_of_ble_eq_true rfl) ?_
  show V l E RX6 cX6_readRowAlone 2 (some .boolean) (rm_X6_readRowAlone) 0 0 (Zm E) rvI _ m0 0 [(0, .ref (eAd E 38)), (1, .ref (eAd E 1))] []
  unfold f_X6_readRowAlone
  refine v_aload_n dX6_readRowAlone_0 rfl 0 rfl ?_
  refine v_iconst (v := 0) dX6_readRowAlone_1 rfl ?_
  refine pf_X6_at kc38 q201 dX6_readRowAlone_2 (fun m1 => ?_)
  refine v_aload_n dX6_readRowAlone_5 rfl 0 rfl ?_
  refine gf_X6_words kc38 q199 dX6_readRowAlone_6 ?_
  refine v_iconst (v := 0) dX6_readRowAlone_9 rfl ?_
  refine pf_X7_count kc39 q188 dX6_readRowAlone_10 (fun m2 => ?_)
  refine v_aload_n dX6_readRowAlone_13 rfl 0 rfl ?_
  refine v_aload_n dX6_readRowAlone_14 rfl 1 rfl ?_
  refine v_callVi (q := 38) (ci := 6) (C := RX6) (T := TX6) (NN := 9) (As := [.ref (eAd E 1)]) (rest := []) (c_X6_readWords l E N m2) kv_X6_readWords kc38 (by decide) rfl q503 ⟨rfl, rfl⟩ ⟨Nat.le_of_ble_eq_true rfl, Nat.le_of_ble_eq_true rfl⟩ ⟨Nat.zero_le _, Nat.zero_le _⟩ rfl rfl (Nat.le_of_ble_eq_true rfl) dX6_readRowAlone_15 (fun m3 r3 => ?_)
  refine v_if_eq (tgt := 37) dX6_readRowAlone_18 (by decide) ?_ ?_
  · refine v_iconst (v := 0) dX6_readRowAlone_37 rfl ?_
    exact v_zret rfl dX6_readRowAlone_38
  · refine v_aload_n dX6_readRowAlone_21 rfl 1 rfl ?_
    refine v_aload_n dX6_readRowAlone_22 rfl 0 rfl ?_
    refine gf_X6_at kc38 q201 dX6_readRowAlone_23 ?_
    refine v_callVi (q := 1) (ci := 4) (C := RX4) (T := TX4) (NN := 2) (As := [.int (m3 38 1)]) (rest := []) (c_X4_byteAt l E m3 (m3 38 1)) kv_X4_byteAt kc1 (by decide) rfl q486 ⟨rfl, rfl⟩ ⟨Nat.le_of_ble_eq_true rfl, Nat.le_of_ble_eq_true rfl⟩ ⟨Nat.zero_le _, Nat.zero_le _⟩ rfl rfl (Nat.le_of_ble_eq_true rfl) dX6_readRowAlone_26 (fun m4 r4 => ?_)
    refine v_iconst (v := (-1)) dX6_readRowAlone_29 rfl ?_
    refine v_icmp_ne (tgt := 37) dX6_readRowAlone_30 (by decide) ?_ ?_
    · refine v_iconst (v := 0) dX6_readRowAlone_37 rfl ?_
      exact v_zret rfl dX6_readRowAlone_38
    · refine v_iconst (v := 1) dX6_readRowAlone_33 rfl ?_
      refine v_goto (tgt := 38) dX6_readRowAlone_34 (by decide) ?_
      exact v_zret rfl dX6_readRowAlone_38

def rm_X8_finds : Room := { frames := 72, cells := 0, slots := 0, locals := 1931 }
def f_X8_finds (N : Nat) (m0 : Mem) : Option (Mem × Int32) := bm (f_X6_readRowAlone N m0) (fun m1 r1 => if r1 = 0 then (some (m1, (-10001))) else (bm (f_X5_find N m1 (m1 43 0)) (fun m2 r2 => some (m2, r2))))
theorem c_X8_finds (l : Launch) (E : EnvT) (N : Nat) (m0 : Mem) : CT l E yX8_finds cX8_finds 1 (some .int) (rm_X8_finds) rvI (f_X8_finds N m0) [.ref (eAd E 0)] m0 := by
  refine CT.ofV (own := RX8) (by decide) rfl (Nat.le_of_ble_eq_true rfl) ?_
  show V l E RX8 cX8_finds 1 (some .int) (rm_X8_finds) 0 0 (Zm E) rvI _ m0 0 [(0, .ref (eAd E 0))] []
  unfold f_X8_finds
  refine v_aload_n dX8_finds_0 rfl 0 rfl ?_
  refine gf_X8_unit kc0 q335 dX8_finds_1 ?_
  refine v_aload_n dX8_finds_4 rfl 0 rfl ?_
  refine gf_X8_text kc0 q333 dX8_finds_5 ?_
  refine v_callVi (q := 38) (ci := 6) (C := RX6) (T := TX6) (NN := 9) (As := [.ref (eAd E 1)]) (rest := []) (c_X6_readRowAlone l E N m0) kv_X6_readRowAlone kc38 (by decide) rfl q714 ⟨rfl, rfl⟩ ⟨Nat.le_of_ble_eq_true rfl, Nat.le_of_ble_eq_true rfl⟩ ⟨Nat.zero_le _, Nat.zero_le _⟩ rfl rfl (Nat.le_of_ble_eq_true rfl) dX8_finds_8 (fun m1 r1 => ?_)
  refine v_if_ne (tgt := 18) dX8_finds_11 (by decide) ?_ ?_
  · refine v_aload_n dX8_finds_18 rfl 0 rfl ?_
    refine gf_X8_tree kc0 q334 dX8_finds_19 ?_
    refine v_aload_n dX8_finds_22 rfl 0 rfl ?_
    refine gf_X8_text kc0 q333 dX8_finds_23 ?_
    refine v_aload_n dX8_finds_26 rfl 0 rfl ?_
    refine gf_X8_unit kc0 q335 dX8_finds_27 ?_
    refine gf_X6_words kc38 q200 dX8_finds_30 ?_
    refine v_aload_n dX8_finds_33 rfl 0 rfl ?_
    refine gf_X8_now kc0 q336 dX8_finds_34 ?_
    refine gf_X3_nodes kc43 q256 dX8_finds_37 ?_
    refine v_callVi (q := 3) (ci := 5) (C := RX5) (T := TX5) (NN := 4) (As := [.ref (eAd E 1), .ref (eAd E 39), .int (m1 43 0)]) (rest := []) (c_X5_find l E N m1 (m1 43 0)) kv_X5_find kc3 (by decide) rfl q672 ⟨rfl, rfl⟩ ⟨Nat.le_of_ble_eq_true rfl, Nat.le_of_ble_eq_true rfl⟩ ⟨Nat.zero_le _, Nat.zero_le _⟩ rfl rfl (Nat.le_of_ble_eq_true rfl) dX8_finds_40 (fun m2 r2 => ?_)
    exact v_iret dX8_finds_43
  · refine v_sipush (v := (-10001)) dX8_finds_14 rfl ?_
    exact v_iret dX8_finds_17

def rm_X2_at : Room := { frames := 0, cells := 0, slots := 0, locals := 0 }
def f_X2_at (k0 : Nat) (m0 : Mem) (x1 : Int32) : Option (Mem × Int32) := if x1 < 0 then (some (m0, (-10001))) else (if (m0 k0 1) ≤ x1 then (some (m0, (-10001))) else (if (Int32.ofNat (ln (k0 + 1))) ≤ x1 then (some (m0, (-10001))) else (gd (inR x1 (ln (k0 + 1))) (some (m0, (m0 (k0 + 1) (ix x1)))))))
theorem c_X2_at (l : Launch) (E : EnvT) (k0 : Nat) (hk0 : kd k0 = 2) (m0 : Mem) (x1 : Int32) : CT l E yX2_at cX2_at 2 (some .int) (rm_X2_at) rvI (f_X2_at k0 m0 x1) [.ref (eAd E k0), .int x1] m0 := by
  refine CT.ofV (own := RX2) (by decide) rfl (Nat.le_of_ble_eq_true rfl) ?_
  show V l E RX2 cX2_at 2 (some .int) (rm_X2_at) 0 0 (Zm E) rvI _ m0 0 [(0, .ref (eAd E k0)), (1, .int x1)] []
  unfold f_X2_at
  refine v_iload_n dX2_at_0 rfl 1 rfl ?_
  refine v_if_lt (tgt := 30) dX2_at_1 (by decide) ?_ ?_
  · refine v_sipush (v := (-10001)) dX2_at_30 rfl ?_
    exact v_iret dX2_at_33
  · refine v_iload_n dX2_at_4 rfl 1 rfl ?_
    refine v_aload_n dX2_at_5 rfl 0 rfl ?_
    refine gf_X2_count hk0 q247 dX2_at_6 ?_
    refine v_icmp_ge (tgt := 30) dX2_at_9 (by decide) ?_ ?_
    · refine v_sipush (v := (-10001)) dX2_at_30 rfl ?_
      exact v_iret dX2_at_33
    · refine v_iload_n dX2_at_12 rfl 1 rfl ?_
      refine v_aload_n dX2_at_13 rfl 0 rfl ?_
      refine gf_X2_items hk0 q246 dX2_at_14 ?_
      refine v_alenI (v := (Int32.ofNat (ln (k0 + 1)))) (krow hk0) rfl dX2_at_17 ?_
      refine v_icmp_ge (tgt := 30) dX2_at_18 (by decide) ?_ ?_
      · refine v_sipush (v := (-10001)) dX2_at_30 rfl ?_
        exact v_iret dX2_at_33
      · refine v_aload_n dX2_at_21 rfl 0 rfl ?_
        refine gf_X2_items hk0 q246 dX2_at_22 ?_
        refine v_iload_n dX2_at_25 rfl 1 rfl ?_
        refine v_gd (fun g26 => ?_)
        refine v_iald (krow hk0) rfl g26 dX2_at_26 ?_
        refine v_goto (tgt := 33) dX2_at_27 (by decide) ?_
        exact v_iret dX2_at_33

def rm_X2_removeAt : Room := { frames := 1, cells := 0, slots := 0, locals := 22 }
def f_X2_removeAt_65 (N : Nat) (k0 : Nat) (m0 : Mem) (x2 : Int32) : Option (Mem × Int32) := lm (up m0 k0 1 ((m0 k0 1) - 1)) (fun m1 => some (m1, x2))
theorem w_X2_removeAt_65 (l : Launch) (E : EnvT) (N : Nat) (k0 : Nat) (hk0 : kd k0 = 2) (m0 : Mem) (x2 : Int32) : V l E RX2 cX2_removeAt 4 (some .int) (rm_X2_removeAt) 0 0 (Zm E) rvI (f_X2_removeAt_65 N k0 m0 x2) m0 65 [(0, .ref (eAd E k0)), (2, .int x2)] [] := by
  unfold f_X2_removeAt_65
  refine v_aload_n dX2_removeAt_65 rfl 0 rfl ?_
  refine v_dup dX2_removeAt_66 rfl ?_
  refine gf_X2_count hk0 q247 dX2_removeAt_67 ?_
  refine v_iconst (v := 1) dX2_removeAt_70 rfl ?_
  refine v_isub dX2_removeAt_71 ?_
  refine pf_X2_count hk0 q247 dX2_removeAt_72 (fun m1 => ?_)
  refine v_iload_n dX2_removeAt_75 rfl 1 rfl ?_
  exact v_iret dX2_removeAt_76
def f_X2_removeAt_28b (N : Nat) (k0 : Nat) (rec_28 : Mem → Int32 → Int32 → Option (Mem × Int32)) (m0 : Mem) (x2 : Int32) (x3 : Int32) : Option (Mem × Int32) := if (m0 k0 1) ≤ x3 then (f_X2_removeAt_65 N k0 m0 x2) else (if (Int32.ofNat (ln (k0 + 1))) ≤ x3 then (f_X2_removeAt_65 N k0 m0 x2) else (gd (inR x3 (ln (k0 + 1))) (gd (inR (x3 - 1) (ln (k0 + 1))) (lm (up m0 (k0 + 1) (ix (x3 - 1)) (m0 (k0 + 1) (ix x3))) (fun m1 => (rec_28 m1 x2 (x3 + 1)))))))
def f_X2_removeAt_28 (N : Nat) (k0 : Nat) : Nat → Mem → Int32 → Int32 → Option (Mem × Int32)
  | 0 => fun _ _ _ => none
  | n + 1 => f_X2_removeAt_28b N k0 (f_X2_removeAt_28 N k0 n)
theorem w_X2_removeAt_28b (l : Launch) (E : EnvT) (N : Nat) (k0 : Nat) (hk0 : kd k0 = 2) (rec_28 : Mem → Int32 → Int32 → Option (Mem × Int32)) (hrec_28 : ∀ (m0 : Mem) (x2 : Int32) (x3 : Int32), V l E RX2 cX2_removeAt 4 (some .int) (rm_X2_removeAt) 0 0 (Zm E) rvI (rec_28 m0 x2 x3) m0 28 [(0, .ref (eAd E k0)), (2, .int x2), (3, .int x3)] []) (m0 : Mem) (x2 : Int32) (x3 : Int32) : V l E RX2 cX2_removeAt 4 (some .int) (rm_X2_removeAt) 0 0 (Zm E) rvI (f_X2_removeAt_28b N k0 rec_28 m0 x2 x3) m0 28 [(0, .ref (eAd E k0)), (2, .int x2), (3, .int x3)] [] := by
  unfold f_X2_removeAt_28b
  refine v_iload_n dX2_removeAt_28 rfl 2 rfl ?_
  refine v_aload_n dX2_removeAt_29 rfl 0 rfl ?_
  refine gf_X2_count hk0 q247 dX2_removeAt_30 ?_
  refine v_icmp_ge (tgt := 65) dX2_removeAt_33 (by decide) ?_ ?_
  · refine v_sub [0, 1] rfl ?_
    exact w_X2_removeAt_65 l E N k0 hk0 m0 x2
  · refine v_iload_n dX2_removeAt_36 rfl 2 rfl ?_
    refine v_aload_n dX2_removeAt_37 rfl 0 rfl ?_
    refine gf_X2_items hk0 q246 dX2_removeAt_38 ?_
    refine v_alenI (v := (Int32.ofNat (ln (k0 + 1)))) (krow hk0) rfl dX2_removeAt_41 ?_
    refine v_icmp_ge (tgt := 65) dX2_removeAt_42 (by decide) ?_ ?_
    · refine v_sub [0, 1] rfl ?_
      exact w_X2_removeAt_65 l E N k0 hk0 m0 x2
    · refine v_aload_n dX2_removeAt_45 rfl 0 rfl ?_
      refine gf_X2_items hk0 q246 dX2_removeAt_46 ?_
      refine v_iload_n dX2_removeAt_49 rfl 2 rfl ?_
      refine v_iconst (v := 1) dX2_removeAt_50 rfl ?_
      refine v_isub dX2_removeAt_51 ?_
      refine v_aload_n dX2_removeAt_52 rfl 0 rfl ?_
      refine gf_X2_items hk0 q246 dX2_removeAt_53 ?_
      refine v_iload_n dX2_removeAt_56 rfl 2 rfl ?_
      refine v_gd (fun g57 => ?_)
      refine v_iald (krow hk0) rfl g57 dX2_removeAt_57 ?_
      refine v_gd (fun g58 => ?_)
      refine v_iast (krow hk0) rfl g58 dX2_removeAt_58 (fun m1 => ?_)
      refine v_iinc (v := (x3 + 1)) (lv' := [(3, .int (x3 + 1)), (0, .ref (eAd E k0)), (2, .int x2)]) dX2_removeAt_59 2 rfl rfl (Nat.le_of_ble_eq_true rfl) rfl ?_
      refine v_goto (tgt := 28) dX2_removeAt_62 (by decide) ?_
      refine v_sub [1, 2, 0] rfl ?_
      exact hrec_28 m1 x2 (x3 + 1)
theorem w_X2_removeAt_28 (l : Launch) (E : EnvT) (N : Nat) (k0 : Nat) (hk0 : kd k0 = 2) : ∀ (n : Nat) (m0 : Mem) (x2 : Int32) (x3 : Int32), V l E RX2 cX2_removeAt 4 (some .int) (rm_X2_removeAt) 0 0 (Zm E) rvI (f_X2_removeAt_28 N k0 n m0 x2 x3) m0 28 [(0, .ref (eAd E k0)), (2, .int x2), (3, .int x3)] [] := by
  intro n
  induction n with
  | zero => intros; exact v_none
  | succ n ih => exact w_X2_removeAt_28b l E N k0 hk0 _ ih
def f_X2_removeAt (N : Nat) (k0 : Nat) (m0 : Mem) (x1 : Int32) : Option (Mem × Int32) := bm (f_X8_isWithin m0 x1 0 ((m0 k0 1) - 1)) (fun m1 r1 => if r1 = 0 then (some (m1, (-10001))) else (bm (f_X2_at k0 m1 x1) (fun m2 r2 => (f_X2_removeAt_28 N k0 N m2 r2 (x1 + 1)))))
theorem c_X2_removeAt (l : Launch) (E : EnvT) (N : Nat) (k0 : Nat) (hk0 : kd k0 = 2) (m0 : Mem) (x1 : Int32) : CT l E yX2_removeAt cX2_removeAt 4 (some .int) (rm_X2_removeAt) rvI (f_X2_removeAt N k0 m0 x1) [.ref (eAd E k0), .int x1] m0 := by
  refine CT.ofV (own := RX2) (by decide) rfl (Nat.le_of_ble_eq_true rfl) ?_
  show V l E RX2 cX2_removeAt 4 (some .int) (rm_X2_removeAt) 0 0 (Zm E) rvI _ m0 0 [(0, .ref (eAd E k0)), (1, .int x1)] []
  unfold f_X2_removeAt
  refine v_iload_n dX2_removeAt_0 rfl 1 rfl ?_
  refine v_iconst (v := 0) dX2_removeAt_1 rfl ?_
  refine v_aload_n dX2_removeAt_2 rfl 0 rfl ?_
  refine gf_X2_count hk0 q247 dX2_removeAt_3 ?_
  refine v_iconst (v := 1) dX2_removeAt_6 rfl ?_
  refine v_isub dX2_removeAt_7 ?_
  refine v_callSNi (As := [.int x1, .int 0, .int ((m0 k0 1) - 1)]) (rest := []) (c_X8_isWithin l E m0 x1 0 ((m0 k0 1) - 1)) ks_X8_isWithin nq726 ⟨rfl, rfl⟩ ⟨Nat.le_of_ble_eq_true rfl, Nat.le_of_ble_eq_true rfl⟩ ⟨Nat.zero_le _, Nat.zero_le _⟩ rfl rfl (Nat.le_of_ble_eq_true rfl) dX2_removeAt_8 (fun m1 r1 => ?_)
  refine v_if_ne (tgt := 18) dX2_removeAt_11 (by decide) ?_ ?_
  · refine v_aload_n dX2_removeAt_18 rfl 0 rfl ?_
    refine v_iload_n dX2_removeAt_19 rfl 1 rfl ?_
    refine v_callVi (q := k0) (ci := 2) (C := RX2) (T := TX2) (NN := 2) (As := [.int x1]) (rest := []) (c_X2_at l E k0 hk0 m1 x1) kv_X2_at hk0 (by decide) rfl q727 ⟨rfl, rfl⟩ ⟨Nat.le_of_ble_eq_true rfl, Nat.le_of_ble_eq_true rfl⟩ ⟨Nat.zero_le _, Nat.zero_le _⟩ rfl rfl (Nat.le_of_ble_eq_true rfl) dX2_removeAt_20 (fun m2 r2 => ?_)
    refine v_istore_n (lv' := [(2, .int r2), (0, .ref (eAd E k0)), (1, .int x1)]) dX2_removeAt_23 rfl (Nat.le_of_ble_eq_true rfl) rfl ?_
    refine v_iload_n dX2_removeAt_24 rfl 2 rfl ?_
    refine v_iconst (v := 1) dX2_removeAt_25 rfl ?_
    refine v_iadd dX2_removeAt_26 ?_
    refine v_istore_n (lv' := [(3, .int (x1 + 1)), (2, .int r2), (0, .ref (eAd E k0)), (1, .int x1)]) dX2_removeAt_27 rfl (Nat.le_of_ble_eq_true rfl) rfl ?_
    refine v_sub [2, 1, 0] rfl ?_
    exact w_X2_removeAt_28 l E N k0 hk0 N m2 r2 (x1 + 1)
  · refine v_sipush (v := (-10001)) dX2_removeAt_14 rfl ?_
    exact v_iret dX2_removeAt_17

def rm_X8_answer : Room := { frames := 3, cells := 0, slots := 0, locals := 65 }
def f_X8_answer (N : Nat) (m0 : Mem) : Option (Mem × Int32) := if (m0 48 1) = 0 then (bm (f_X8_refuse m0 (-10003)) (fun m3 r3 => some (m3, r3))) else (bm (f_X0_keep N 43 m0) (fun m1 _ => bm (f_X2_removeAt N 48 m1 0) (fun m2 r2 => some (m2, r2))))
theorem c_X8_answer (l : Launch) (E : EnvT) (N : Nat) (m0 : Mem) : CT l E yX8_answer cX8_answer 1 (some .int) (rm_X8_answer) rvI (f_X8_answer N m0) [.ref (eAd E 0)] m0 := by
  refine CT.ofV (own := RX8) (by decide) rfl (Nat.le_of_ble_eq_true rfl) ?_
  show V l E RX8 cX8_answer 1 (some .int) (rm_X8_answer) 0 0 (Zm E) rvI _ m0 0 [(0, .ref (eAd E 0))] []
  unfold f_X8_answer
  refine v_aload_n dX8_answer_0 rfl 0 rfl ?_
  refine gf_X8_now kc0 q336 dX8_answer_1 ?_
  refine gf_X3_answers kc43 q265 dX8_answer_4 ?_
  refine gf_X2_count (kst5 st43) q249 dX8_answer_7 ?_
  refine v_if_ne (tgt := 21) dX8_answer_10 (by decide) ?_ ?_
  · refine v_aload_n dX8_answer_21 rfl 0 rfl ?_
    refine gf_X8_history kc0 q337 dX8_answer_22 ?_
    refine v_aload_n dX8_answer_25 rfl 0 rfl ?_
    refine gf_X8_now kc0 q336 dX8_answer_26 ?_
    refine v_callVv (q := 54) (ci := 0) (C := RX0) (T := TX0) (NN := 2) (As := [.ref (eAd E 43)]) (rest := []) (c_X0_keep l E N 43 st43 m0) kv_X0_keep kc54 (by decide) rfl q395 ⟨rfl, rfl⟩ ⟨Nat.le_of_ble_eq_true rfl, Nat.le_of_ble_eq_true rfl⟩ ⟨Nat.zero_le _, Nat.zero_le _⟩ rfl rfl (Nat.le_of_ble_eq_true rfl) dX8_answer_29 (fun m1 _ => ?_)
    refine v_aload_n dX8_answer_32 rfl 0 rfl ?_
    refine gf_X8_now kc0 q336 dX8_answer_33 ?_
    refine gf_X3_answers kc43 q265 dX8_answer_36 ?_
    refine v_iconst (v := 0) dX8_answer_39 rfl ?_
    refine v_callVi (q := 48) (ci := 2) (C := RX2) (T := TX2) (NN := 2) (As := [.int 0]) (rest := []) (c_X2_removeAt l E N 48 (kst5 st43) m1 0) kv_X2_removeAt (kst5 st43) (by decide) rfl q722 ⟨rfl, rfl⟩ ⟨Nat.le_of_ble_eq_true rfl, Nat.le_of_ble_eq_true rfl⟩ ⟨Nat.zero_le _, Nat.zero_le _⟩ rfl rfl (Nat.le_of_ble_eq_true rfl) dX8_answer_40 (fun m2 r2 => ?_)
    exact v_iret dX8_answer_43
  · refine v_aload_n dX8_answer_13 rfl 0 rfl ?_
    refine v_sipush (v := (-10003)) dX8_answer_14 rfl ?_
    refine v_callVi (q := 0) (ci := 8) (C := RX8) (T := TX8) (NN := 8) (As := [.int (-10003)]) (rest := []) (c_X8_refuse l E m0 (-10003)) kv_X8_refuse kc0 (by decide) rfl q373 ⟨rfl, rfl⟩ ⟨Nat.le_of_ble_eq_true rfl, Nat.le_of_ble_eq_true rfl⟩ ⟨Nat.zero_le _, Nat.zero_le _⟩ rfl rfl (Nat.le_of_ble_eq_true rfl) dX8_answer_17 (fun m3 r3 => ?_)
    exact v_iret dX8_answer_20

def rm_X8_fault : Room := { frames := 3, cells := 0, slots := 0, locals := 65 }
def f_X8_fault (N : Nat) (m0 : Mem) : Option (Mem × Int32) := if (m0 50 1) = 0 then (bm (f_X8_refuse m0 (-10003)) (fun m3 r3 => some (m3, r3))) else (bm (f_X0_keep N 43 m0) (fun m1 _ => bm (f_X2_removeAt N 50 m1 0) (fun m2 r2 => some (m2, r2))))
theorem c_X8_fault (l : Launch) (E : EnvT) (N : Nat) (m0 : Mem) : CT l E yX8_fault cX8_fault 1 (some .int) (rm_X8_fault) rvI (f_X8_fault N m0) [.ref (eAd E 0)] m0 := by
  refine CT.ofV (own := RX8) (by decide) rfl (Nat.le_of_ble_eq_true rfl) ?_
  show V l E RX8 cX8_fault 1 (some .int) (rm_X8_fault) 0 0 (Zm E) rvI _ m0 0 [(0, .ref (eAd E 0))] []
  unfold f_X8_fault
  refine v_aload_n dX8_fault_0 rfl 0 rfl ?_
  refine gf_X8_now kc0 q336 dX8_fault_1 ?_
  refine gf_X3_faults kc43 q267 dX8_fault_4 ?_
  refine gf_X2_count (kst7 st43) q249 dX8_fault_7 ?_
  refine v_if_ne (tgt := 21) dX8_fault_10 (by decide) ?_ ?_
  · refine v_aload_n dX8_fault_21 rfl 0 rfl ?_
    refine gf_X8_history kc0 q337 dX8_fault_22 ?_
    refine v_aload_n dX8_fault_25 rfl 0 rfl ?_
    refine gf_X8_now kc0 q336 dX8_fault_26 ?_
    refine v_callVv (q := 54) (ci := 0) (C := RX0) (T := TX0) (NN := 2) (As := [.ref (eAd E 43)]) (rest := []) (c_X0_keep l E N 43 st43 m0) kv_X0_keep kc54 (by decide) rfl q395 ⟨rfl, rfl⟩ ⟨Nat.le_of_ble_eq_true rfl, Nat.le_of_ble_eq_true rfl⟩ ⟨Nat.zero_le _, Nat.zero_le _⟩ rfl rfl (Nat.le_of_ble_eq_true rfl) dX8_fault_29 (fun m1 _ => ?_)
    refine v_aload_n dX8_fault_32 rfl 0 rfl ?_
    refine gf_X8_now kc0 q336 dX8_fault_33 ?_
    refine gf_X3_faults kc43 q267 dX8_fault_36 ?_
    refine v_iconst (v := 0) dX8_fault_39 rfl ?_
    refine v_callVi (q := 50) (ci := 2) (C := RX2) (T := TX2) (NN := 2) (As := [.int 0]) (rest := []) (c_X2_removeAt l E N 50 (kst7 st43) m1 0) kv_X2_removeAt (kst7 st43) (by decide) rfl q722 ⟨rfl, rfl⟩ ⟨Nat.le_of_ble_eq_true rfl, Nat.le_of_ble_eq_true rfl⟩ ⟨Nat.zero_le _, Nat.zero_le _⟩ rfl rfl (Nat.le_of_ble_eq_true rfl) dX8_fault_40 (fun m2 r2 => ?_)
    exact v_iret dX8_fault_43
  · refine v_aload_n dX8_fault_13 rfl 0 rfl ?_
    refine v_sipush (v := (-10003)) dX8_fault_14 rfl ?_
    refine v_callVi (q := 0) (ci := 8) (C := RX8) (T := TX8) (NN := 8) (As := [.int (-10003)]) (rest := []) (c_X8_refuse l E m0 (-10003)) kv_X8_refuse kc0 (by decide) rfl q373 ⟨rfl, rfl⟩ ⟨Nat.le_of_ble_eq_true rfl, Nat.le_of_ble_eq_true rfl⟩ ⟨Nat.zero_le _, Nat.zero_le _⟩ rfl rfl (Nat.le_of_ble_eq_true rfl) dX8_fault_17 (fun m3 r3 => ?_)
    exact v_iret dX8_fault_20

def rm_X3_turnCondition : Room := { frames := 0, cells := 0, slots := 0, locals := 0 }
def f_X3_turnCondition_30 (k0 : Nat) (m0 : Mem) (x1 : Int32) (s0 : Int32) : Option (Mem × Unit) := lm (up m0 k0 12 ((m0 k0 12) ||| (x1 &&& s0))) (fun m1 => some (m1, ()))
theorem w_X3_turnCondition_30 (l : Launch) (E : EnvT) (k0 : Nat) (hk0 : isSt k0 = true) (m0 : Mem) (x1 : Int32) (s0 : Int32) : V l E RX3 cX3_turnCondition 3 none (rm_X3_turnCondition) 0 0 (Zm E) rvV (f_X3_turnCondition_30 k0 m0 x1 s0) m0 30 [(0, .ref (eAd E k0)), (1, .int x1)] [.int s0] := by
  unfold f_X3_turnCondition_30
  refine v_istore_n (lv' := [(2, .int s0), (0, .ref (eAd E k0)), (1, .int x1)]) dX3_turnCondition_30 rfl (Nat.le_of_ble_eq_true rfl) rfl ?_
  refine v_aload_n dX3_turnCondition_31 rfl 1 rfl ?_
  refine v_dup dX3_turnCondition_32 rfl ?_
  refine gf_X3_edges (kst hk0) q275 dX3_turnCondition_33 ?_
  refine v_iload_n dX3_turnCondition_36 rfl 2 rfl ?_
  refine v_iload_n dX3_turnCondition_37 rfl 0 rfl ?_
  refine v_iand dX3_turnCondition_38 ?_
  refine v_ior dX3_turnCondition_39 ?_
  refine pf_X3_edges (kst hk0) q275 dX3_turnCondition_40 (fun m1 => ?_)
  exact v_vret dX3_turnCondition_43
def f_X3_turnCondition (k0 : Nat) (m0 : Mem) (x1 : Int32) : Option (Mem × Unit) := lm (up m0 k0 11 ((m0 k0 11) ^^^ x1)) (fun m1 => if ((m1 k0 11) &&& x1) = 0 then (f_X3_turnCondition_30 k0 m1 x1 (m1 k0 14)) else (f_X3_turnCondition_30 k0 m1 x1 (m1 k0 13)))
theorem c_X3_turnCondition (l : Launch) (E : EnvT) (k0 : Nat) (hk0 : isSt k0 = true) (m0 : Mem) (x1 : Int32) : CT l E yX3_turnCondition cX3_turnCondition 3 none (rm_X3_turnCondition) rvV (f_X3_turnCondition k0 m0 x1) [.ref (eAd E k0), .int x1] m0 := by
  refine CT.ofV (own := RX3) (by decide) rfl (Nat.le_of_ble_eq_true rfl) ?_
  show V l E RX3 cX3_turnCondition 3 none (rm_X3_turnCondition) 0 0 (Zm E) rvV _ m0 0 [(0, .ref (eAd E k0)), (1, .int x1)] []
  unfold f_X3_turnCondition
  refine v_aload_n dX3_turnCondition_0 rfl 0 rfl ?_
  refine v_dup dX3_turnCondition_1 rfl ?_
  refine gf_X3_conditions (kst hk0) q273 dX3_turnCondition_2 ?_
  refine v_iload_n dX3_turnCondition_5 rfl 1 rfl ?_
  refine v_ixor dX3_turnCondition_6 ?_
  refine pf_X3_conditions (kst hk0) q273 dX3_turnCondition_7 (fun m1 => ?_)
  refine v_aload_n dX3_turnCondition_10 rfl 0 rfl ?_
  refine gf_X3_conditions (kst hk0) q273 dX3_turnCondition_11 ?_
  refine v_iload_n dX3_turnCondition_14 rfl 1 rfl ?_
  refine v_iand dX3_turnCondition_15 ?_
  refine v_if_eq (tgt := 26) dX3_turnCondition_16 (by decide) ?_ ?_
  · refine v_aload_n dX3_turnCondition_26 rfl 0 rfl ?_
    refine gf_X3_falls (kst hk0) q278 dX3_turnCondition_27 ?_
    exact w_X3_turnCondition_30 l E k0 hk0 m1 x1 (m1 k0 14)
  · refine v_aload_n dX3_turnCondition_19 rfl 0 rfl ?_
    refine gf_X3_rises (kst hk0) q277 dX3_turnCondition_20 ?_
    refine v_goto (tgt := 30) dX3_turnCondition_23 (by decide) ?_
    exact w_X3_turnCondition_30 l E k0 hk0 m1 x1 (m1 k0 13)

def rm_X8_condition : Room := { frames := 3, cells := 0, slots := 0, locals := 65 }
def f_X8_condition_18 (N : Nat) (m0 : Mem) : Option (Mem × Int32) := bm (f_X8_refuse m0 (-10002)) (fun m1 r1 => some (m1, r1))
theorem w_X8_condition_18 (l : Launch) (E : EnvT) (N : Nat) (m0 : Mem) : V l E RX8 cX8_condition 4 (some .int) (rm_X8_condition) 0 0 (Zm E) rvI (f_X8_condition_18 N m0) m0 18 [(0, .ref (eAd E 0))] [] := by
  unfold f_X8_condition_18
  refine v_aload_n dX8_condition_18 rfl 0 rfl ?_
  refine v_sipush (v := (-10002)) dX8_condition_19 rfl ?_
  refine v_callVi (q := 0) (ci := 8) (C := RX8) (T := TX8) (NN := 8) (As := [.int (-10002)]) (rest := []) (c_X8_refuse l E m0 (-10002)) kv_X8_refuse kc0 (by decide) rfl q373 ⟨rfl, rfl⟩ ⟨Nat.le_of_ble_eq_true rfl, Nat.le_of_ble_eq_true rfl⟩ ⟨Nat.zero_le _, Nat.zero_le _⟩ rfl rfl (Nat.le_of_ble_eq_true rfl) dX8_condition_22 (fun m1 r1 => ?_)
  exact v_iret dX8_condition_25
def f_X8_condition (N : Nat) (m0 : Mem) (x1 : Int32) (x2 : Int32) : Option (Mem × Int32) := bm (f_X8_isWithin m0 x1 0 3) (fun m1 r1 => if r1 = 0 then (f_X8_condition_18 N m1) else (bm (f_X8_isWithin m1 x2 0 1) (fun m2 r2 => if r2 = 0 then (f_X8_condition_18 N m2) else (bm (f_X0_keep N 43 m2) (fun m3 _ => if (((m3 43 11) >>> (x1 &&& 31)) &&& 1) = x2 then (some (m3, (((m3 43 11) >>> (x1 &&& 31)) &&& 1))) else (bm (f_X3_turnCondition 43 m3 (1 <<< (x1 &&& 31))) (fun m4 _ => some (m4, (((m3 43 11) >>> (x1 &&& 31)) &&& 1)))))))))
theorem c_X8_condition (l : Launch) (E : EnvT) (N : Nat) (m0 : Mem) (x1 : Int32) (x2 : Int32) : CT l E yX8_condition cX8_condition 4 (some .int) (rm_X8_condition) rvI (f_X8_condition N m0 x1 x2) [.ref (eAd E 0), .int x1, .int x2] m0 := by
  refine CT.ofV (own := RX8) (by decide) rfl (Nat.le_of_ble_eq_true rfl) ?_
  show V l E RX8 cX8_condition 4 (some .int) (rm_X8_condition) 0 0 (Zm E) rvI _ m0 0 [(0, .ref (eAd E 0)), (1, .int x1), (2, .int x2)] []
  unfold f_X8_condition
  refine v_iload_n dX8_condition_0 rfl 1 rfl ?_
  refine v_iconst (v := 0) dX8_condition_1 rfl ?_
  refine v_iconst (v := 3) dX8_condition_2 rfl ?_
  refine v_callSi (As := [.int x1, .int 0, .int 3]) (rest := []) (c_X8_isWithin l E m0 x1 0 3) ks_X8_isWithin q370 ⟨rfl, rfl⟩ ⟨Nat.le_of_ble_eq_true rfl, Nat.le_of_ble_eq_true rfl⟩ ⟨Nat.zero_le _, Nat.zero_le _⟩ rfl rfl (Nat.le_of_ble_eq_true rfl) dX8_condition_3 (fun m1 r1 => ?_)
  refine v_if_eq (tgt := 18) dX8_condition_6 (by decide) ?_ ?_
  · refine v_sub [0] rfl ?_
    exact w_X8_condition_18 l E N m1
  · refine v_iload_n dX8_condition_9 rfl 2 rfl ?_
    refine v_iconst (v := 0) dX8_condition_10 rfl ?_
    refine v_iconst (v := 1) dX8_condition_11 rfl ?_
    refine v_callSi (As := [.int x2, .int 0, .int 1]) (rest := []) (c_X8_isWithin l E m1 x2 0 1) ks_X8_isWithin q370 ⟨rfl, rfl⟩ ⟨Nat.le_of_ble_eq_true rfl, Nat.le_of_ble_eq_true rfl⟩ ⟨Nat.zero_le _, Nat.zero_le _⟩ rfl rfl (Nat.le_of_ble_eq_true rfl) dX8_condition_12 (fun m2 r2 => ?_)
    refine v_if_ne (tgt := 26) dX8_condition_15 (by decide) ?_ ?_
    · refine v_aload_n dX8_condition_26 rfl 0 rfl ?_
      refine gf_X8_history kc0 q337 dX8_condition_27 ?_
      refine v_aload_n dX8_condition_30 rfl 0 rfl ?_
      refine gf_X8_now kc0 q336 dX8_condition_31 ?_
      refine v_callVv (q := 54) (ci := 0) (C := RX0) (T := TX0) (NN := 2) (As := [.ref (eAd E 43)]) (rest := []) (c_X0_keep l E N 43 st43 m2) kv_X0_keep kc54 (by decide) rfl q395 ⟨rfl, rfl⟩ ⟨Nat.le_of_ble_eq_true rfl, Nat.le_of_ble_eq_true rfl⟩ ⟨Nat.zero_le _, Nat.zero_le _⟩ rfl rfl (Nat.le_of_ble_eq_true rfl) dX8_condition_34 (fun m3 _ => ?_)
      refine v_aload_n dX8_condition_37 rfl 0 rfl ?_
      refine gf_X8_now kc0 q336 dX8_condition_38 ?_
      refine gf_X3_conditions kc43 q274 dX8_condition_41 ?_
      refine v_iload_n dX8_condition_44 rfl 1 rfl ?_
      refine v_ishr dX8_condition_45 ?_
      refine v_iconst (v := 1) dX8_condition_46 rfl ?_
      refine v_iand dX8_condition_47 ?_
      refine v_istore_n (lv' := [(3, .int (((m3 43 11) >>> (x1 &&& 31)) &&& 1)), (0, .ref (eAd E 0)), (1, .int x1), (2, .int x2)]) dX8_condition_48 rfl (Nat.le_of_ble_eq_true rfl) rfl ?_
      refine v_iload_n dX8_condition_49 rfl 0 rfl ?_
      refine v_iload_n dX8_condition_50 rfl 3 rfl ?_
      refine v_icmp_eq (tgt := 64) dX8_condition_51 (by decide) ?_ ?_
      · refine v_iload_n dX8_condition_64 rfl 0 rfl ?_
        exact v_iret dX8_condition_65
      · refine v_aload_n dX8_condition_54 rfl 1 rfl ?_
        refine gf_X8_now kc0 q336 dX8_condition_55 ?_
        refine v_iconst (v := 1) dX8_condition_58 rfl ?_
        refine v_iload_n dX8_condition_59 rfl 2 rfl ?_
        refine v_ishl dX8_condition_60 ?_
        refine v_callVv (q := 43) (ci := 3) (C := RX3) (T := TX3) (NN := 17) (As := [.int (1 <<< (x1 &&& 31))]) (rest := []) (c_X3_turnCondition l E 43 st43 m3 (1 <<< (x1 &&& 31))) kv_X3_turnCondition kc43 (by decide) rfl q739 ⟨rfl, rfl⟩ ⟨Nat.le_of_ble_eq_true rfl, Nat.le_of_ble_eq_true rfl⟩ ⟨Nat.zero_le _, Nat.zero_le _⟩ rfl rfl (Nat.le_of_ble_eq_true rfl) dX8_condition_61 (fun m4 _ => ?_)
        refine v_iload_n dX8_condition_64 rfl 0 rfl ?_
        exact v_iret dX8_condition_65
    · refine v_sub [0] rfl ?_
      exact w_X8_condition_18 l E N m2

def rm_X3_changeMask : Room := { frames := 0, cells := 0, slots := 0, locals := 0 }
def f_X3_changeMask (k0 : Nat) (m0 : Mem) (x1 : Int32) (x2 : Int32) : Option (Mem × Int32) := if x1 = 0 then (lm (up m0 k0 13 x2) (fun m3 => some (m3, (m0 k0 13)))) else (if x1 = 1 then (lm (up m0 k0 14 x2) (fun m2 => some (m2, (m0 k0 14)))) else (lm (up m0 k0 15 x2) (fun m1 => some (m1, (m0 k0 15)))))
theorem c_X3_changeMask (l : Launch) (E : EnvT) (k0 : Nat) (hk0 : isSt k0 = true) (m0 : Mem) (x1 : Int32) (x2 : Int32) : CT l E yX3_changeMask cX3_changeMask 4 (some .int) (rm_X3_changeMask) rvI (f_X3_changeMask k0 m0 x1 x2) [.ref (eAd E k0), .int x1, .int x2] m0 := by
  refine CT.ofV (own := RX3) (by decide) rfl (Nat.le_of_ble_eq_true rfl) ?_
  show V l E RX3 cX3_changeMask 4 (some .int) (rm_X3_changeMask) 0 0 (Zm E) rvI _ m0 0 [(0, .ref (eAd E k0)), (1, .int x1), (2, .int x2)] []
  unfold f_X3_changeMask
  refine v_iload_n dX3_changeMask_0 rfl 1 rfl ?_
  refine v_if_ne (tgt := 17) dX3_changeMask_1 (by decide) ?_ ?_
  · refine v_iload_n dX3_changeMask_17 rfl 1 rfl ?_
    refine v_iconst (v := 1) dX3_changeMask_18 rfl ?_
    refine v_icmp_ne (tgt := 35) dX3_changeMask_19 (by decide) ?_ ?_
    · refine v_aload_n dX3_changeMask_35 rfl 0 rfl ?_
      refine gf_X3_enable (kst hk0) q279 dX3_changeMask_36 ?_
      refine v_istore_n (lv' := [(3, .int (m0 k0 15)), (0, .ref (eAd E k0)), (1, .int x1), (2, .int x2)]) dX3_changeMask_39 rfl (Nat.le_of_ble_eq_true rfl) rfl ?_
      refine v_aload_n dX3_changeMask_40 rfl 1 rfl ?_
      refine v_iload_n dX3_changeMask_41 rfl 3 rfl ?_
      refine pf_X3_enable (kst hk0) q279 dX3_changeMask_42 (fun m1 => ?_)
      refine v_iload_n dX3_changeMask_45 rfl 0 rfl ?_
      exact v_iret dX3_changeMask_46
    · refine v_aload_n dX3_changeMask_22 rfl 0 rfl ?_
      refine gf_X3_falls (kst hk0) q278 dX3_changeMask_23 ?_
      refine v_istore_n (lv' := [(3, .int (m0 k0 14)), (0, .ref (eAd E k0)), (1, .int x1), (2, .int x2)]) dX3_changeMask_26 rfl (Nat.le_of_ble_eq_true rfl) rfl ?_
      refine v_aload_n dX3_changeMask_27 rfl 1 rfl ?_
      refine v_iload_n dX3_changeMask_28 rfl 3 rfl ?_
      refine pf_X3_falls (kst hk0) q278 dX3_changeMask_29 (fun m2 => ?_)
      refine v_goto (tgt := 45) dX3_changeMask_32 (by decide) ?_
      refine v_iload_n dX3_changeMask_45 rfl 0 rfl ?_
      exact v_iret dX3_changeMask_46
  · refine v_aload_n dX3_changeMask_4 rfl 0 rfl ?_
    refine gf_X3_rises (kst hk0) q277 dX3_changeMask_5 ?_
    refine v_istore_n (lv' := [(3, .int (m0 k0 13)), (0, .ref (eAd E k0)), (1, .int x1), (2, .int x2)]) dX3_changeMask_8 rfl (Nat.le_of_ble_eq_true rfl) rfl ?_
    refine v_aload_n dX3_changeMask_9 rfl 1 rfl ?_
    refine v_iload_n dX3_changeMask_10 rfl 3 rfl ?_
    refine pf_X3_rises (kst hk0) q277 dX3_changeMask_11 (fun m3 => ?_)
    refine v_goto (tgt := 45) dX3_changeMask_14 (by decide) ?_
    refine v_iload_n dX3_changeMask_45 rfl 0 rfl ?_
    exact v_iret dX3_changeMask_46

def rm_X8_masks : Room := { frames := 3, cells := 0, slots := 0, locals := 65 }
def f_X8_masks_19 (N : Nat) (m0 : Mem) : Option (Mem × Int32) := bm (f_X8_refuse m0 (-10002)) (fun m1 r1 => some (m1, r1))
theorem w_X8_masks_19 (l : Launch) (E : EnvT) (N : Nat) (m0 : Mem) : V l E RX8 cX8_masks 3 (some .int) (rm_X8_masks) 0 0 (Zm E) rvI (f_X8_masks_19 N m0) m0 19 [(0, .ref (eAd E 0))] [] := by
  unfold f_X8_masks_19
  refine v_aload_n dX8_masks_19 rfl 0 rfl ?_
  refine v_sipush (v := (-10002)) dX8_masks_20 rfl ?_
  refine v_callVi (q := 0) (ci := 8) (C := RX8) (T := TX8) (NN := 8) (As := [.int (-10002)]) (rest := []) (c_X8_refuse l E m0 (-10002)) kv_X8_refuse kc0 (by decide) rfl q373 ⟨rfl, rfl⟩ ⟨Nat.le_of_ble_eq_true rfl, Nat.le_of_ble_eq_true rfl⟩ ⟨Nat.zero_le _, Nat.zero_le _⟩ rfl rfl (Nat.le_of_ble_eq_true rfl) dX8_masks_23 (fun m1 r1 => ?_)
  exact v_iret dX8_masks_26
def f_X8_masks (N : Nat) (m0 : Mem) (x1 : Int32) (x2 : Int32) : Option (Mem × Int32) := bm (f_X8_isWithin m0 x1 0 2) (fun m1 r1 => if r1 = 0 then (f_X8_masks_19 N m1) else (bm (f_X8_isWithin m1 x2 0 15) (fun m2 r2 => if r2 = 0 then (f_X8_masks_19 N m2) else (bm (f_X0_keep N 43 m2) (fun m3 _ => bm (f_X3_changeMask 43 m3 x1 x2) (fun m4 r4 => some (m4, r4)))))))
theorem c_X8_masks (l : Launch) (E : EnvT) (N : Nat) (m0 : Mem) (x1 : Int32) (x2 : Int32) : CT l E yX8_masks cX8_masks 3 (some .int) (rm_X8_masks) rvI (f_X8_masks N m0 x1 x2) [.ref (eAd E 0), .int x1, .int x2] m0 := by
  refine CT.ofV (own := RX8) (by decide) rfl (Nat.le_of_ble_eq_true rfl) ?_
  show V l E RX8 cX8_masks 3 (some .int) (rm_X8_masks) 0 0 (Zm E) rvI _ m0 0 [(0, .ref (eAd E 0)), (1, .int x1), (2, .int x2)] []
  unfold f_X8_masks
  refine v_iload_n dX8_masks_0 rfl 1 rfl ?_
  refine v_iconst (v := 0) dX8_masks_1 rfl ?_
  refine v_iconst (v := 2) dX8_masks_2 rfl ?_
  refine v_callSi (As := [.int x1, .int 0, .int 2]) (rest := []) (c_X8_isWithin l E m0 x1 0 2) ks_X8_isWithin q370 ⟨rfl, rfl⟩ ⟨Nat.le_of_ble_eq_true rfl, Nat.le_of_ble_eq_true rfl⟩ ⟨Nat.zero_le _, Nat.zero_le _⟩ rfl rfl (Nat.le_of_ble_eq_true rfl) dX8_masks_3 (fun m1 r1 => ?_)
  refine v_if_eq (tgt := 19) dX8_masks_6 (by decide) ?_ ?_
  · refine v_sub [0] rfl ?_
    exact w_X8_masks_19 l E N m1
  · refine v_iload_n dX8_masks_9 rfl 2 rfl ?_
    refine v_iconst (v := 0) dX8_masks_10 rfl ?_
    refine v_bipush (v := 15) dX8_masks_11 rfl ?_
    refine v_callSi (As := [.int x2, .int 0, .int 15]) (rest := []) (c_X8_isWithin l E m1 x2 0 15) ks_X8_isWithin q370 ⟨rfl, rfl⟩ ⟨Nat.le_of_ble_eq_true rfl, Nat.le_of_ble_eq_true rfl⟩ ⟨Nat.zero_le _, Nat.zero_le _⟩ rfl rfl (Nat.le_of_ble_eq_true rfl) dX8_masks_13 (fun m2 r2 => ?_)
    refine v_if_ne (tgt := 27) dX8_masks_16 (by decide) ?_ ?_
    · refine v_aload_n dX8_masks_27 rfl 0 rfl ?_
      refine gf_X8_history kc0 q337 dX8_masks_28 ?_
      refine v_aload_n dX8_masks_31 rfl 0 rfl ?_
      refine gf_X8_now kc0 q336 dX8_masks_32 ?_
      refine v_callVv (q := 54) (ci := 0) (C := RX0) (T := TX0) (NN := 2) (As := [.ref (eAd E 43)]) (rest := []) (c_X0_keep l E N 43 st43 m2) kv_X0_keep kc54 (by decide) rfl q395 ⟨rfl, rfl⟩ ⟨Nat.le_of_ble_eq_true rfl, Nat.le_of_ble_eq_true rfl⟩ ⟨Nat.zero_le _, Nat.zero_le _⟩ rfl rfl (Nat.le_of_ble_eq_true rfl) dX8_masks_35 (fun m3 _ => ?_)
      refine v_aload_n dX8_masks_38 rfl 0 rfl ?_
      refine gf_X8_now kc0 q336 dX8_masks_39 ?_
      refine v_iload_n dX8_masks_42 rfl 1 rfl ?_
      refine v_iload_n dX8_masks_43 rfl 2 rfl ?_
      refine v_callVi (q := 43) (ci := 3) (C := RX3) (T := TX3) (NN := 17) (As := [.int x1, .int x2]) (rest := []) (c_X3_changeMask l E 43 st43 m3 x1 x2) kv_X3_changeMask kc43 (by decide) rfl q747 ⟨rfl, rfl⟩ ⟨Nat.le_of_ble_eq_true rfl, Nat.le_of_ble_eq_true rfl⟩ ⟨Nat.zero_le _, Nat.zero_le _⟩ rfl rfl (Nat.le_of_ble_eq_true rfl) dX8_masks_44 (fun m4 r4 => ?_)
      exact v_iret dX8_masks_47
    · refine v_sub [0] rfl ?_
      exact w_X8_masks_19 l E N m2

def rm_X8_edges : Room := { frames := 3, cells := 0, slots := 0, locals := 65 }
def f_X8_edges (N : Nat) (m0 : Mem) : Option (Mem × Int32) := bm (f_X0_keep N 43 m0) (fun m1 _ => lm (up m1 43 12 0) (fun m2 => some (m2, (m1 43 12))))
theorem c_X8_edges (l : Launch) (E : EnvT) (N : Nat) (m0 : Mem) : CT l E yX8_edges cX8_edges 2 (some .int) (rm_X8_edges) rvI (f_X8_edges N m0) [.ref (eAd E 0)] m0 := by
  refine CT.ofV (own := RX8) (by decide) rfl (Nat.le_of_ble_eq_true rfl) ?_
  show V l E RX8 cX8_edges 2 (some .int) (rm_X8_edges) 0 0 (Zm E) rvI _ m0 0 [(0, .ref (eAd E 0))] []
  unfold f_X8_edges
  refine v_aload_n dX8_edges_0 rfl 0 rfl ?_
  refine gf_X8_history kc0 q337 dX8_edges_1 ?_
  refine v_aload_n dX8_edges_4 rfl 0 rfl ?_
  refine gf_X8_now kc0 q336 dX8_edges_5 ?_
  refine v_callVv (q := 54) (ci := 0) (C := RX0) (T := TX0) (NN := 2) (As := [.ref (eAd E 43)]) (rest := []) (c_X0_keep l E N 43 st43 m0) kv_X0_keep kc54 (by decide) rfl q395 ⟨rfl, rfl⟩ ⟨Nat.le_of_ble_eq_true rfl, Nat.le_of_ble_eq_true rfl⟩ ⟨Nat.zero_le _, Nat.zero_le _⟩ rfl rfl (Nat.le_of_ble_eq_true rfl) dX8_edges_8 (fun m1 _ => ?_)
  refine v_aload_n dX8_edges_11 rfl 0 rfl ?_
  refine gf_X8_now kc0 q336 dX8_edges_12 ?_
  refine gf_X3_edges kc43 q276 dX8_edges_15 ?_
  refine v_istore_n (lv' := [(1, .int (m1 43 12)), (0, .ref (eAd E 0))]) dX8_edges_18 rfl (Nat.le_of_ble_eq_true rfl) rfl ?_
  refine v_aload_n dX8_edges_19 rfl 1 rfl ?_
  refine gf_X8_now kc0 q336 dX8_edges_20 ?_
  refine v_iconst (v := 0) dX8_edges_23 rfl ?_
  refine pf_X3_edges kc43 q276 dX8_edges_24 (fun m2 => ?_)
  refine v_iload_n dX8_edges_27 rfl 0 rfl ?_
  exact v_iret dX8_edges_28

def rm_X3_finish : Room := { frames := 2, cells := 0, slots := 0, locals := 45 }
def f_X3_finish (N : Nat) (k0 : Nat) (m0 : Mem) (x1 : Int32) : Option (Mem × Unit) := bm (f_X2_removeAt N (k0 + 9) m0 x1) (fun m1 r1 => if (m1 (k0 + 9) 1) = 0 then (if (m1 k0 16) = 0 then (some (m1, ())) else (lm (up m1 k0 8 ((m1 k0 8) ||| 1)) (fun m2 => lm (up m2 k0 16 0) (fun m3 => some (m3, ()))))) else (some (m1, ())))
theorem c_X3_finish (l : Launch) (E : EnvT) (N : Nat) (k0 : Nat) (hk0 : isSt k0 = true) (m0 : Mem) (x1 : Int32) : CT l E yX3_finish cX3_finish 2 none (rm_X3_finish) rvV (f_X3_finish N k0 m0 x1) [.ref (eAd E k0), .int x1] m0 := by
  refine CT.ofV (own := RX3) (by decide) rfl (Nat.le_of_ble_eq_true rfl) ?_
  show V l E RX3 cX3_finish 2 none (rm_X3_finish) 0 0 (Zm E) rvV _ m0 0 [(0, .ref (eAd E k0)), (1, .int x1)] []
  unfold f_X3_finish
  refine v_aload_n dX3_finish_0 rfl 0 rfl ?_
  refine gf_X3_pending (kst hk0) q268 dX3_finish_1 ?_
  refine v_iload_n dX3_finish_4 rfl 1 rfl ?_
  refine v_callVi (q := (k0 + 9)) (ci := 2) (C := RX2) (T := TX2) (NN := 2) (As := [.int x1]) (rest := []) (c_X2_removeAt l E N (k0 + 9) (kst9 hk0) m0 x1) kv_X2_removeAt (kst9 hk0) (by decide) rfl q763 ⟨rfl, rfl⟩ ⟨Nat.le_of_ble_eq_true rfl, Nat.le_of_ble_eq_true rfl⟩ ⟨Nat.zero_le _, Nat.zero_le _⟩ rfl rfl (Nat.le_of_ble_eq_true rfl) dX3_finish_5 (fun m1 r1 => ?_)
  refine v_pop dX3_finish_8 rfl ?_
  refine v_aload_n dX3_finish_9 rfl 0 rfl ?_
  refine gf_X3_pending (kst hk0) q268 dX3_finish_10 ?_
  refine gf_X2_count (kst9 hk0) q248 dX3_finish_13 ?_
  refine v_if_ne (tgt := 41) dX3_finish_16 (by decide) ?_ ?_
  · exact v_vret dX3_finish_41
  · refine v_aload_n dX3_finish_19 rfl 0 rfl ?_
    refine gf_X3_isWaiting (kst hk0) q280 dX3_finish_20 ?_
    refine v_if_eq (tgt := 41) dX3_finish_23 (by decide) ?_ ?_
    · exact v_vret dX3_finish_41
    · refine v_aload_n dX3_finish_26 rfl 0 rfl ?_
      refine v_dup dX3_finish_27 rfl ?_
      refine gf_X3_events (kst hk0) q270 dX3_finish_28 ?_
      refine v_iconst (v := 1) dX3_finish_31 rfl ?_
      refine v_ior dX3_finish_32 ?_
      refine pf_X3_events (kst hk0) q270 dX3_finish_33 (fun m2 => ?_)
      refine v_aload_n dX3_finish_36 rfl 0 rfl ?_
      refine v_iconst (v := 0) dX3_finish_37 rfl ?_
      refine pf_X3_isWaiting (kst hk0) q280 rfl dX3_finish_38 (fun m3 => ?_)
      exact v_vret dX3_finish_41

def rm_X8_finishes : Room := { frames := 3, cells := 0, slots := 0, locals := 66 }
def f_X8_finishes (N : Nat) (m0 : Mem) (x1 : Int32) : Option (Mem × Int32) := bm (f_X8_isWithin m0 x1 0 ((m0 52 1) - 1)) (fun m1 r1 => if r1 = 0 then (bm (f_X8_refuse m1 (-10002)) (fun m4 r4 => some (m4, r4))) else (bm (f_X0_keep N 43 m1) (fun m2 _ => bm (f_X3_finish N 43 m2 x1) (fun m3 _ => some (m3, (m3 52 1))))))
theorem c_X8_finishes (l : Launch) (E : EnvT) (N : Nat) (m0 : Mem) (x1 : Int32) : CT l E yX8_finishes cX8_finishes 2 (some .int) (rm_X8_finishes) rvI (f_X8_finishes N m0 x1) [.ref (eAd E 0), .int x1] m0 := by
  refine CT.ofV (own := RX8) (by decide) rfl (Nat.le_of_ble_eq_true rfl) ?_
  show V l E RX8 cX8_finishes 2 (some .int) (rm_X8_finishes) 0 0 (Zm E) rvI _ m0 0 [(0, .ref (eAd E 0)), (1, .int x1)] []
  unfold f_X8_finishes
  refine v_iload_n dX8_finishes_0 rfl 1 rfl ?_
  refine v_iconst (v := 0) dX8_finishes_1 rfl ?_
  refine v_aload_n dX8_finishes_2 rfl 0 rfl ?_
  refine gf_X8_now kc0 q336 dX8_finishes_3 ?_
  refine gf_X3_pending kc43 q269 dX8_finishes_6 ?_
  refine gf_X2_count (kst9 st43) q249 dX8_finishes_9 ?_
  refine v_iconst (v := 1) dX8_finishes_12 rfl ?_
  refine v_isub dX8_finishes_13 ?_
  refine v_callSi (As := [.int x1, .int 0, .int ((m0 52 1) - 1)]) (rest := []) (c_X8_isWithin l E m0 x1 0 ((m0 52 1) - 1)) ks_X8_isWithin q370 ⟨rfl, rfl⟩ ⟨Nat.le_of_ble_eq_true rfl, Nat.le_of_ble_eq_true rfl⟩ ⟨Nat.zero_le _, Nat.zero_le _⟩ rfl rfl (Nat.le_of_ble_eq_true rfl) dX8_finishes_14 (fun m1 r1 => ?_)
  refine v_if_ne (tgt := 28) dX8_finishes_17 (by decide) ?_ ?_
  · refine v_aload_n dX8_finishes_28 rfl 0 rfl ?_
    refine gf_X8_history kc0 q337 dX8_finishes_29 ?_
    refine v_aload_n dX8_finishes_32 rfl 0 rfl ?_
    refine gf_X8_now kc0 q336 dX8_finishes_33 ?_
    refine v_callVv (q := 54) (ci := 0) (C := RX0) (T := TX0) (NN := 2) (As := [.ref (eAd E 43)]) (rest := []) (c_X0_keep l E N 43 st43 m1) kv_X0_keep kc54 (by decide) rfl q395 ⟨rfl, rfl⟩ ⟨Nat.le_of_ble_eq_true rfl, Nat.le_of_ble_eq_true rfl⟩ ⟨Nat.zero_le _, Nat.zero_le _⟩ rfl rfl (Nat.le_of_ble_eq_true rfl) dX8_finishes_36 (fun m2 _ => ?_)
    refine v_aload_n dX8_finishes_39 rfl 0 rfl ?_
    refine gf_X8_now kc0 q336 dX8_finishes_40 ?_
    refine v_iload_n dX8_finishes_43 rfl 1 rfl ?_
    refine v_callVv (q := 43) (ci := 3) (C := RX3) (T := TX3) (NN := 17) (As := [.int x1]) (rest := []) (c_X3_finish l E N 43 st43 m2 x1) kv_X3_finish kc43 (by decide) rfl q759 ⟨rfl, rfl⟩ ⟨Nat.le_of_ble_eq_true rfl, Nat.le_of_ble_eq_true rfl⟩ ⟨Nat.zero_le _, Nat.zero_le _⟩ rfl rfl (Nat.le_of_ble_eq_true rfl) dX8_finishes_44 (fun m3 _ => ?_)
    refine v_aload_n dX8_finishes_47 rfl 0 rfl ?_
    refine gf_X8_now kc0 q336 dX8_finishes_48 ?_
    refine gf_X3_pending kc43 q269 dX8_finishes_51 ?_
    refine gf_X2_count (kst9 st43) q249 dX8_finishes_54 ?_
    exact v_iret dX8_finishes_57
  · refine v_aload_n dX8_finishes_20 rfl 0 rfl ?_
    refine v_sipush (v := (-10002)) dX8_finishes_21 rfl ?_
    refine v_callVi (q := 0) (ci := 8) (C := RX8) (T := TX8) (NN := 8) (As := [.int (-10002)]) (rest := []) (c_X8_refuse l E m1 (-10002)) kv_X8_refuse kc0 (by decide) rfl q373 ⟨rfl, rfl⟩ ⟨Nat.le_of_ble_eq_true rfl, Nat.le_of_ble_eq_true rfl⟩ ⟨Nat.zero_le _, Nat.zero_le _⟩ rfl rfl (Nat.le_of_ble_eq_true rfl) dX8_finishes_24 (fun m4 r4 => ?_)
    exact v_iret dX8_finishes_27

def rm_X3_reading : Room := { frames := 1, cells := 0, slots := 0, locals := 21 }
def f_X3_reading (k0 : Nat) (m0 : Mem) (x1 : Int32) : Option (Mem × Int32) := if x1 = 0 then (some (m0, (m0 k0 8))) else (if x1 = 1 then (some (m0, (m0 k0 9))) else (if x1 = 2 then (some (m0, (m0 k0 10))) else (if x1 = 3 then (bm (f_X3_sum k0 m0) (fun m1 r1 => some (m1, r1))) else (if x1 = 4 then (some (m0, (m0 k0 11))) else (if x1 = 5 then (some (m0, (m0 k0 12))) else (if x1 = 6 then (some (m0, (m0 k0 13))) else (if x1 = 7 then (some (m0, (m0 k0 14))) else (if x1 = 8 then (some (m0, (m0 k0 15))) else (if x1 = 9 then (some (m0, (m0 (k0 + 9) 1))) else (if x1 = 10 then (if (m0 k0 16) = 0 then (some (m0, 0)) else (some (m0, 1))) else (if x1 = 11 then (some (m0, (m0 (k0 + 5) 1))) else (if x1 = 12 then (some (m0, (m0 (k0 + 7) 1))) else (some (m0, (m0 k0 0)))))))))))))))
theorem c_X3_reading (l : Launch) (E : EnvT) (k0 : Nat) (hk0 : isSt k0 = true) (m0 : Mem) (x1 : Int32) : CT l E yX3_reading cX3_reading 2 (some .int) (rm_X3_reading) rvI (f_X3_reading k0 m0 x1) [.ref (eAd E k0), .int x1] m0 := by
  refine CT.ofV (own := RX3) (by decide) rfl (Nat.le_of_ble_eq_true rfl) ?_
  show V l E RX3 cX3_reading 2 (some .int) (rm_X3_reading) 0 0 (Zm E) rvI _ m0 0 [(0, .ref (eAd E k0)), (1, .int x1)] []
  unfold f_X3_reading
  refine v_iload_n dX3_reading_0 rfl 1 rfl ?_
  refine v_tcase (k := 0) (tgt := 68) dX3_reading_1 (by decide) (by decide) rfl (by decide) ?_ (fun n1_0 => ?_)
  · refine v_aload_n dX3_reading_68 rfl 0 rfl ?_
    refine gf_X3_events (kst hk0) q270 dX3_reading_69 ?_
    exact v_iret dX3_reading_72
  refine v_tcase (k := 1) (tgt := 73) dX3_reading_1 (by decide) (by decide) rfl (by decide) ?_ (fun n1_1 => ?_)
  · refine v_aload_n dX3_reading_73 rfl 0 rfl ?_
    refine gf_X3_eventMask (kst hk0) q271 dX3_reading_74 ?_
    exact v_iret dX3_reading_77
  refine v_tcase (k := 2) (tgt := 78) dX3_reading_1 (by decide) (by decide) rfl (by decide) ?_ (fun n1_2 => ?_)
  · refine v_aload_n dX3_reading_78 rfl 0 rfl ?_
    refine gf_X3_serviceMask (kst hk0) q272 dX3_reading_79 ?_
    exact v_iret dX3_reading_82
  refine v_tcase (k := 3) (tgt := 83) dX3_reading_1 (by decide) (by decide) rfl (by decide) ?_ (fun n1_3 => ?_)
  · refine v_aload_n dX3_reading_83 rfl 0 rfl ?_
    refine v_callVi (q := k0) (ci := 3) (C := RX3) (T := TX3) (NN := 17) (As := []) (rest := []) (c_X3_sum l E k0 hk0 m0) kv_X3_sum (kst hk0) (by decide) rfl q625 ⟨rfl, rfl⟩ ⟨Nat.le_of_ble_eq_true rfl, Nat.le_of_ble_eq_true rfl⟩ ⟨Nat.zero_le _, Nat.zero_le _⟩ rfl rfl (Nat.le_of_ble_eq_true rfl) dX3_reading_84 (fun m1 r1 => ?_)
    exact v_iret dX3_reading_87
  refine v_tcase (k := 4) (tgt := 88) dX3_reading_1 (by decide) (by decide) rfl (by decide) ?_ (fun n1_4 => ?_)
  · refine v_aload_n dX3_reading_88 rfl 0 rfl ?_
    refine gf_X3_conditions (kst hk0) q273 dX3_reading_89 ?_
    exact v_iret dX3_reading_92
  refine v_tcase (k := 5) (tgt := 93) dX3_reading_1 (by decide) (by decide) rfl (by decide) ?_ (fun n1_5 => ?_)
  · refine v_aload_n dX3_reading_93 rfl 0 rfl ?_
    refine gf_X3_edges (kst hk0) q275 dX3_reading_94 ?_
    exact v_iret dX3_reading_97
  refine v_tcase (k := 6) (tgt := 98) dX3_reading_1 (by decide) (by decide) rfl (by decide) ?_ (fun n1_6 => ?_)
  · refine v_aload_n dX3_reading_98 rfl 0 rfl ?_
    refine gf_X3_rises (kst hk0) q277 dX3_reading_99 ?_
    exact v_iret dX3_reading_102
  refine v_tcase (k := 7) (tgt := 103) dX3_reading_1 (by decide) (by decide) rfl (by decide) ?_ (fun n1_7 => ?_)
  · refine v_aload_n dX3_reading_103 rfl 0 rfl ?_
    refine gf_X3_falls (kst hk0) q278 dX3_reading_104 ?_
    exact v_iret dX3_reading_107
  refine v_tcase (k := 8) (tgt := 108) dX3_reading_1 (by decide) (by decide) rfl (by decide) ?_ (fun n1_8 => ?_)
  · refine v_aload_n dX3_reading_108 rfl 0 rfl ?_
    refine gf_X3_enable (kst hk0) q279 dX3_reading_109 ?_
    exact v_iret dX3_reading_112
  refine v_tcase (k := 9) (tgt := 113) dX3_reading_1 (by decide) (by decide) rfl (by decide) ?_ (fun n1_9 => ?_)
  · refine v_aload_n dX3_reading_113 rfl 0 rfl ?_
    refine gf_X3_pending (kst hk0) q268 dX3_reading_114 ?_
    refine gf_X2_count (kst9 hk0) q248 dX3_reading_117 ?_
    exact v_iret dX3_reading_120
  refine v_tcase (k := 10) (tgt := 121) dX3_reading_1 (by decide) (by decide) rfl (by decide) ?_ (fun n1_10 => ?_)
  · refine v_aload_n dX3_reading_121 rfl 0 rfl ?_
    refine gf_X3_isWaiting (kst hk0) q280 dX3_reading_122 ?_
    refine v_if_eq (tgt := 132) dX3_reading_125 (by decide) ?_ ?_
    · refine v_iconst (v := 0) dX3_reading_132 rfl ?_
      exact v_iret dX3_reading_133
    · refine v_iconst (v := 1) dX3_reading_128 rfl ?_
      refine v_goto (tgt := 133) dX3_reading_129 (by decide) ?_
      exact v_iret dX3_reading_133
  refine v_tcase (k := 11) (tgt := 134) dX3_reading_1 (by decide) (by decide) rfl (by decide) ?_ (fun n1_11 => ?_)
  · refine v_aload_n dX3_reading_134 rfl 0 rfl ?_
    refine gf_X3_answers (kst hk0) q264 dX3_reading_135 ?_
    refine gf_X2_count (kst5 hk0) q248 dX3_reading_138 ?_
    exact v_iret dX3_reading_141
  refine v_tcase (k := 12) (tgt := 142) dX3_reading_1 (by decide) (by decide) rfl (by decide) ?_ (fun n1_12 => ?_)
  · refine v_aload_n dX3_reading_142 rfl 0 rfl ?_
    refine gf_X3_faults (kst hk0) q266 dX3_reading_143 ?_
    refine gf_X2_count (kst7 hk0) q248 dX3_reading_146 ?_
    exact v_iret dX3_reading_149
  refine v_tout (tgt := 150) dX3_reading_1 (by have en1_0 := lv_neT (a := 0) n1_0 rfl; have en1_1 := lv_neT (a := 1) n1_1 rfl; have en1_2 := lv_neT (a := 2) n1_2 rfl; have en1_3 := lv_neT (a := 3) n1_3 rfl; have en1_4 := lv_neT (a := 4) n1_4 rfl; have en1_5 := lv_neT (a := 5) n1_5 rfl; have en1_6 := lv_neT (a := 6) n1_6 rfl; have en1_7 := lv_neT (a := 7) n1_7 rfl; have en1_8 := lv_neT (a := 8) n1_8 rfl; have en1_9 := lv_neT (a := 9) n1_9 rfl; have en1_10 := lv_neT (a := 10) n1_10 rfl; have en1_11 := lv_neT (a := 11) n1_11 rfl; have en1_12 := lv_neT (a := 12) n1_12 rfl; omega) (by decide) ?_
  refine v_aload_n dX3_reading_150 rfl 0 rfl ?_
  refine gf_X3_nodes (kst hk0) q255 dX3_reading_151 ?_
  exact v_iret dX3_reading_154

def rm_X8_state : Room := { frames := 2, cells := 0, slots := 0, locals := 42 }
def f_X8_state (m0 : Mem) (x1 : Int32) : Option (Mem × Int32) := bm (f_X8_isWithin m0 x1 0 13) (fun m1 r1 => if r1 = 0 then (bm (f_X8_refuse m1 (-10002)) (fun m3 r3 => some (m3, r3))) else (bm (f_X3_reading 43 m1 x1) (fun m2 r2 => some (m2, r2))))
theorem c_X8_state (l : Launch) (E : EnvT) (m0 : Mem) (x1 : Int32) : CT l E yX8_state cX8_state 2 (some .int) (rm_X8_state) rvI (f_X8_state m0 x1) [.ref (eAd E 0), .int x1] m0 := by
  refine CT.ofV (own := RX8) (by decide) rfl (Nat.le_of_ble_eq_true rfl) ?_
  show V l E RX8 cX8_state 2 (some .int) (rm_X8_state) 0 0 (Zm E) rvI _ m0 0 [(0, .ref (eAd E 0)), (1, .int x1)] []
  unfold f_X8_state
  refine v_iload_n dX8_state_0 rfl 1 rfl ?_
  refine v_iconst (v := 0) dX8_state_1 rfl ?_
  refine v_bipush (v := 13) dX8_state_2 rfl ?_
  refine v_callSi (As := [.int x1, .int 0, .int 13]) (rest := []) (c_X8_isWithin l E m0 x1 0 13) ks_X8_isWithin q370 ⟨rfl, rfl⟩ ⟨Nat.le_of_ble_eq_true rfl, Nat.le_of_ble_eq_true rfl⟩ ⟨Nat.zero_le _, Nat.zero_le _⟩ rfl rfl (Nat.le_of_ble_eq_true rfl) dX8_state_4 (fun m1 r1 => ?_)
  refine v_if_ne (tgt := 18) dX8_state_7 (by decide) ?_ ?_
  · refine v_aload_n dX8_state_18 rfl 0 rfl ?_
    refine gf_X8_now kc0 q336 dX8_state_19 ?_
    refine v_iload_n dX8_state_22 rfl 1 rfl ?_
    refine v_callVi (q := 43) (ci := 3) (C := RX3) (T := TX3) (NN := 17) (As := [.int x1]) (rest := []) (c_X3_reading l E 43 st43 m1 x1) kv_X3_reading kc43 (by decide) rfl q768 ⟨rfl, rfl⟩ ⟨Nat.le_of_ble_eq_true rfl, Nat.le_of_ble_eq_true rfl⟩ ⟨Nat.zero_le _, Nat.zero_le _⟩ rfl rfl (Nat.le_of_ble_eq_true rfl) dX8_state_23 (fun m2 r2 => ?_)
    exact v_iret dX8_state_26
  · refine v_aload_n dX8_state_10 rfl 0 rfl ?_
    refine v_sipush (v := (-10002)) dX8_state_11 rfl ?_
    refine v_callVi (q := 0) (ci := 8) (C := RX8) (T := TX8) (NN := 8) (As := [.int (-10002)]) (rest := []) (c_X8_refuse l E m1 (-10002)) kv_X8_refuse kc0 (by decide) rfl q373 ⟨rfl, rfl⟩ ⟨Nat.le_of_ble_eq_true rfl, Nat.le_of_ble_eq_true rfl⟩ ⟨Nat.zero_le _, Nat.zero_le _⟩ rfl rfl (Nat.le_of_ble_eq_true rfl) dX8_state_14 (fun m3 r3 => ?_)
    exact v_iret dX8_state_17

def rm_X8_answers : Room := { frames := 1, cells := 0, slots := 0, locals := 21 }
def f_X8_answers (m0 : Mem) (x1 : Int32) : Option (Mem × Int32) := if 0 ≤ x1 then (bm (f_X2_at 48 m0 x1) (fun m1 r1 => some (m1, r1))) else (bm (f_X8_refuse m0 (-10002)) (fun m2 r2 => some (m2, r2)))
theorem c_X8_answers (l : Launch) (E : EnvT) (m0 : Mem) (x1 : Int32) : CT l E yX8_answers cX8_answers 2 (some .int) (rm_X8_answers) rvI (f_X8_answers m0 x1) [.ref (eAd E 0), .int x1] m0 := by
  refine CT.ofV (own := RX8) (by decide) rfl (Nat.le_of_ble_eq_true rfl) ?_
  show V l E RX8 cX8_answers 2 (some .int) (rm_X8_answers) 0 0 (Zm E) rvI _ m0 0 [(0, .ref (eAd E 0)), (1, .int x1)] []
  unfold f_X8_answers
  refine v_iload_n dX8_answers_0 rfl 1 rfl ?_
  refine v_if_ge (tgt := 14) dX8_answers_1 (by decide) ?_ ?_
  · refine v_aload_n dX8_answers_14 rfl 0 rfl ?_
    refine gf_X8_now kc0 q336 dX8_answers_15 ?_
    refine gf_X3_answers kc43 q265 dX8_answers_18 ?_
    refine v_iload_n dX8_answers_21 rfl 1 rfl ?_
    refine v_callVi (q := 48) (ci := 2) (C := RX2) (T := TX2) (NN := 2) (As := [.int x1]) (rest := []) (c_X2_at l E 48 (kst5 st43) m0 x1) kv_X2_at (kst5 st43) (by decide) rfl q776 ⟨rfl, rfl⟩ ⟨Nat.le_of_ble_eq_true rfl, Nat.le_of_ble_eq_true rfl⟩ ⟨Nat.zero_le _, Nat.zero_le _⟩ rfl rfl (Nat.le_of_ble_eq_true rfl) dX8_answers_22 (fun m1 r1 => ?_)
    exact v_iret dX8_answers_25
  · refine v_aload_n dX8_answers_4 rfl 0 rfl ?_
    refine v_sipush (v := (-10002)) dX8_answers_5 rfl ?_
    refine v_callVi (q := 0) (ci := 8) (C := RX8) (T := TX8) (NN := 8) (As := [.int (-10002)]) (rest := []) (c_X8_refuse l E m0 (-10002)) kv_X8_refuse kc0 (by decide) rfl q373 ⟨rfl, rfl⟩ ⟨Nat.le_of_ble_eq_true rfl, Nat.le_of_ble_eq_true rfl⟩ ⟨Nat.zero_le _, Nat.zero_le _⟩ rfl rfl (Nat.le_of_ble_eq_true rfl) dX8_answers_8 (fun m2 r2 => ?_)
    refine v_goto (tgt := 25) dX8_answers_11 (by decide) ?_
    exact v_iret dX8_answers_25

def rm_X8_faults : Room := { frames := 1, cells := 0, slots := 0, locals := 21 }
def f_X8_faults (m0 : Mem) (x1 : Int32) : Option (Mem × Int32) := if 0 ≤ x1 then (bm (f_X2_at 50 m0 x1) (fun m1 r1 => some (m1, r1))) else (bm (f_X8_refuse m0 (-10002)) (fun m2 r2 => some (m2, r2)))
theorem c_X8_faults (l : Launch) (E : EnvT) (m0 : Mem) (x1 : Int32) : CT l E yX8_faults cX8_faults 2 (some .int) (rm_X8_faults) rvI (f_X8_faults m0 x1) [.ref (eAd E 0), .int x1] m0 := by
  refine CT.ofV (own := RX8) (by decide) rfl (Nat.le_of_ble_eq_true rfl) ?_
  show V l E RX8 cX8_faults 2 (some .int) (rm_X8_faults) 0 0 (Zm E) rvI _ m0 0 [(0, .ref (eAd E 0)), (1, .int x1)] []
  unfold f_X8_faults
  refine v_iload_n dX8_faults_0 rfl 1 rfl ?_
  refine v_if_ge (tgt := 14) dX8_faults_1 (by decide) ?_ ?_
  · refine v_aload_n dX8_faults_14 rfl 0 rfl ?_
    refine gf_X8_now kc0 q336 dX8_faults_15 ?_
    refine gf_X3_faults kc43 q267 dX8_faults_18 ?_
    refine v_iload_n dX8_faults_21 rfl 1 rfl ?_
    refine v_callVi (q := 50) (ci := 2) (C := RX2) (T := TX2) (NN := 2) (As := [.int x1]) (rest := []) (c_X2_at l E 50 (kst7 st43) m0 x1) kv_X2_at (kst7 st43) (by decide) rfl q776 ⟨rfl, rfl⟩ ⟨Nat.le_of_ble_eq_true rfl, Nat.le_of_ble_eq_true rfl⟩ ⟨Nat.zero_le _, Nat.zero_le _⟩ rfl rfl (Nat.le_of_ble_eq_true rfl) dX8_faults_22 (fun m1 r1 => ?_)
    exact v_iret dX8_faults_25
  · refine v_aload_n dX8_faults_4 rfl 0 rfl ?_
    refine v_sipush (v := (-10002)) dX8_faults_5 rfl ?_
    refine v_callVi (q := 0) (ci := 8) (C := RX8) (T := TX8) (NN := 8) (As := [.int (-10002)]) (rest := []) (c_X8_refuse l E m0 (-10002)) kv_X8_refuse kc0 (by decide) rfl q373 ⟨rfl, rfl⟩ ⟨Nat.le_of_ble_eq_true rfl, Nat.le_of_ble_eq_true rfl⟩ ⟨Nat.zero_le _, Nat.zero_le _⟩ rfl rfl (Nat.le_of_ble_eq_true rfl) dX8_faults_8 (fun m2 r2 => ?_)
    refine v_goto (tgt := 25) dX8_faults_11 (by decide) ?_
    exact v_iret dX8_faults_25

def rm_X8_pending : Room := { frames := 1, cells := 0, slots := 0, locals := 21 }
def f_X8_pending (m0 : Mem) (x1 : Int32) : Option (Mem × Int32) := if 0 ≤ x1 then (bm (f_X2_at 52 m0 x1) (fun m1 r1 => some (m1, r1))) else (bm (f_X8_refuse m0 (-10002)) (fun m2 r2 => some (m2, r2)))
theorem c_X8_pending (l : Launch) (E : EnvT) (m0 : Mem) (x1 : Int32) : CT l E yX8_pending cX8_pending 2 (some .int) (rm_X8_pending) rvI (f_X8_pending m0 x1) [.ref (eAd E 0), .int x1] m0 := by
  refine CT.ofV (own := RX8) (by decide) rfl (Nat.le_of_ble_eq_true rfl) ?_
  show V l E RX8 cX8_pending 2 (some .int) (rm_X8_pending) 0 0 (Zm E) rvI _ m0 0 [(0, .ref (eAd E 0)), (1, .int x1)] []
  unfold f_X8_pending
  refine v_iload_n dX8_pending_0 rfl 1 rfl ?_
  refine v_if_ge (tgt := 14) dX8_pending_1 (by decide) ?_ ?_
  · refine v_aload_n dX8_pending_14 rfl 0 rfl ?_
    refine gf_X8_now kc0 q336 dX8_pending_15 ?_
    refine gf_X3_pending kc43 q269 dX8_pending_18 ?_
    refine v_iload_n dX8_pending_21 rfl 1 rfl ?_
    refine v_callVi (q := 52) (ci := 2) (C := RX2) (T := TX2) (NN := 2) (As := [.int x1]) (rest := []) (c_X2_at l E 52 (kst9 st43) m0 x1) kv_X2_at (kst9 st43) (by decide) rfl q776 ⟨rfl, rfl⟩ ⟨Nat.le_of_ble_eq_true rfl, Nat.le_of_ble_eq_true rfl⟩ ⟨Nat.zero_le _, Nat.zero_le _⟩ rfl rfl (Nat.le_of_ble_eq_true rfl) dX8_pending_22 (fun m1 r1 => ?_)
    exact v_iret dX8_pending_25
  · refine v_aload_n dX8_pending_4 rfl 0 rfl ?_
    refine v_sipush (v := (-10002)) dX8_pending_5 rfl ?_
    refine v_callVi (q := 0) (ci := 8) (C := RX8) (T := TX8) (NN := 8) (As := [.int (-10002)]) (rest := []) (c_X8_refuse l E m0 (-10002)) kv_X8_refuse kc0 (by decide) rfl q373 ⟨rfl, rfl⟩ ⟨Nat.le_of_ble_eq_true rfl, Nat.le_of_ble_eq_true rfl⟩ ⟨Nat.zero_le _, Nat.zero_le _⟩ rfl rfl (Nat.le_of_ble_eq_true rfl) dX8_pending_8 (fun m2 r2 => ?_)
    refine v_goto (tgt := 25) dX8_pending_11 (by decide) ?_
    exact v_iret dX8_pending_25

def rm_X0_restore : Room := { frames := 2, cells := 0, slots := 0, locals := 44 }
def f_X0_restore (N : Nat) (k1 : Nat) (m0 : Mem) : Option (Mem × Unit) := if (m0 54 1) ≤ 0 then (some (m0, ())) else (if 5 < (m0 54 1) then (some (m0, ())) else (lm (up m0 54 1 ((m0 54 1) - 1)) (fun m1 => gd (inR (m1 54 1) 5) (gd (isSt (ix (m1 55 (ix (m1 54 1))))) (bm (f_X3_copyFrom N k1 (ix (m1 55 (ix (m1 54 1)))) m1) (fun m2 _ => some (m2, ())))))))
theorem c_X0_restore (l : Launch) (E : EnvT) (N : Nat) (k1 : Nat) (hk1 : isSt k1 = true) (m0 : Mem) : CT l E yX0_restore cX0_restore 2 none (rm_X0_restore) rvV (f_X0_restore N k1 m0) [.ref (eAd E 54), .ref (eAd E k1)] m0 := by
  refine CT.ofV (own := RX0) (by decide) rfl (Nat.le_of_ble_eq_true rfl) ?_
  show V l E RX0 cX0_restore 2 none (rm_X0_restore) 0 0 (Zm E) rvV _ m0 0 [(0, .ref (eAd E 54)), (1, .ref (eAd E k1))] []
  unfold f_X0_restore
  refine v_aload_n dX0_restore_0 rfl 0 rfl ?_
  refine gf_X0_count kc54 q326 dX0_restore_1 ?_
  refine v_if_le (tgt := 38) dX0_restore_4 (by decide) ?_ ?_
  · exact v_vret dX0_restore_38
  · refine v_aload_n dX0_restore_7 rfl 0 rfl ?_
    refine gf_X0_count kc54 q326 dX0_restore_8 ?_
    refine v_iconst (v := 5) dX0_restore_11 rfl ?_
    refine v_icmp_gt (tgt := 38) dX0_restore_12 (by decide) ?_ ?_
    · exact v_vret dX0_restore_38
    · refine v_aload_n dX0_restore_15 rfl 0 rfl ?_
      refine v_dup dX0_restore_16 rfl ?_
      refine gf_X0_count kc54 q326 dX0_restore_17 ?_
      refine v_iconst (v := 1) dX0_restore_20 rfl ?_
      refine v_isub dX0_restore_21 ?_
      refine pf_X0_count kc54 q326 dX0_restore_22 (fun m1 => ?_)
      refine v_aload_n dX0_restore_25 rfl 1 rfl ?_
      refine v_aload_n dX0_restore_26 rfl 0 rfl ?_
      refine gf_X0_kept kc54 q325 dX0_restore_27 ?_
      refine v_aload_n dX0_restore_30 rfl 0 rfl ?_
      refine gf_X0_count kc54 q326 dX0_restore_31 ?_
      refine v_gd (fun g34 => ?_)
      refine v_gd (fun g34s => ?_)
      refine v_aldS g34 dX0_restore_34 ?_
      refine v_callVv (q := k1) (ci := 3) (C := RX3) (T := TX3) (NN := 17) (As := [.ref (eAd E (ix (m1 55 (ix (m1 54 1)))))]) (rest := []) (c_X3_copyFrom l E N k1 (ix (m1 55 (ix (m1 54 1)))) hk1 g34s m1) kv_X3_copyFrom (kst hk1) (by decide) rfl q403 ⟨rfl, rfl⟩ ⟨Nat.le_of_ble_eq_true rfl, Nat.le_of_ble_eq_true rfl⟩ ⟨Nat.zero_le _, Nat.zero_le _⟩ rfl rfl (Nat.le_of_ble_eq_true rfl) dX0_restore_35 (fun m2 _ => ?_)
      exact v_vret dX0_restore_38

def rm_X8_back : Room := { frames := 3, cells := 0, slots := 0, locals := 65 }
def f_X8_back (N : Nat) (m0 : Mem) : Option (Mem × Int32) := if (m0 54 1) = 0 then (bm (f_X8_refuse m0 (-10003)) (fun m2 r2 => some (m2, r2))) else (bm (f_X0_restore N 43 m0) (fun m1 _ => some (m1, (m1 54 1))))
theorem c_X8_back (l : Launch) (E : EnvT) (N : Nat) (m0 : Mem) : CT l E yX8_back cX8_back 1 (some .int) (rm_X8_back) rvI (f_X8_back N m0) [.ref (eAd E 0)] m0 := by
  refine CT.ofV (own := RX8) (by decide) rfl (Nat.le_of_ble_eq_true rfl) ?_
  show V l E RX8 cX8_back 1 (some .int) (rm_X8_back) 0 0 (Zm E) rvI _ m0 0 [(0, .ref (eAd E 0))] []
  unfold f_X8_back
  refine v_aload_n dX8_back_0 rfl 0 rfl ?_
  refine gf_X8_history kc0 q337 dX8_back_1 ?_
  refine gf_X0_count kc54 q327 dX8_back_4 ?_
  refine v_if_ne (tgt := 18) dX8_back_7 (by decide) ?_ ?_
  · refine v_aload_n dX8_back_18 rfl 0 rfl ?_
    refine gf_X8_history kc0 q337 dX8_back_19 ?_
    refine v_aload_n dX8_back_22 rfl 0 rfl ?_
    refine gf_X8_now kc0 q336 dX8_back_23 ?_
    refine v_callVv (q := 54) (ci := 0) (C := RX0) (T := TX0) (NN := 2) (As := [.ref (eAd E 43)]) (rest := []) (c_X0_restore l E N 43 st43 m0) kv_X0_restore kc54 (by decide) rfl q789 ⟨rfl, rfl⟩ ⟨Nat.le_of_ble_eq_true rfl, Nat.le_of_ble_eq_true rfl⟩ ⟨Nat.zero_le _, Nat.zero_le _⟩ rfl rfl (Nat.le_of_ble_eq_true rfl) dX8_back_26 (fun m1 _ => ?_)
    refine v_aload_n dX8_back_29 rfl 0 rfl ?_
    refine gf_X8_history kc0 q337 dX8_back_30 ?_
    refine gf_X0_count kc54 q327 dX8_back_33 ?_
    exact v_iret dX8_back_36
  · refine v_aload_n dX8_back_10 rfl 0 rfl ?_
    refine v_sipush (v := (-10003)) dX8_back_11 rfl ?_
    refine v_callVi (q := 0) (ci := 8) (C := RX8) (T := TX8) (NN := 8) (As := [.int (-10003)]) (rest := []) (c_X8_refuse l E m0 (-10003)) kv_X8_refuse kc0 (by decide) rfl q373 ⟨rfl, rfl⟩ ⟨Nat.le_of_ble_eq_true rfl, Nat.le_of_ble_eq_true rfl⟩ ⟨Nat.zero_le _, Nat.zero_le _⟩ rfl rfl (Nat.le_of_ble_eq_true rfl) dX8_back_14 (fun m2 r2 => ?_)
    exact v_iret dX8_back_17

def rm_X8_tally : Room := { frames := 0, cells := 0, slots := 0, locals := 0 }
def f_X8_tally (m0 : Mem) (x1 : Int32) : Option (Mem × Int32) := if x1 = 0 then (some (m0, (m0 0 5))) else (if x1 = 1 then (some (m0, (m0 0 6))) else (if x1 = 2 then (some (m0, (m0 0 7))) else (if x1 = 3 then (some (m0, (m0 1 1))) else (some (m0, (m0 54 1))))))
theorem c_X8_tally (l : Launch) (E : EnvT) (m0 : Mem) (x1 : Int32) : CT l E yX8_tally cX8_tally 2 (some .int) (rm_X8_tally) rvI (f_X8_tally m0 x1) [.ref (eAd E 0), .int x1] m0 := by
  refine CT.ofV (own := RX8) (by decide) rfl (Nat.le_of_ble_eq_true rfl) ?_
  show V l E RX8 cX8_tally 2 (some .int) (rm_X8_tally) 0 0 (Zm E) rvI _ m0 0 [(0, .ref (eAd E 0)), (1, .int x1)] []
  unfold f_X8_tally
  refine v_iload_n dX8_tally_0 rfl 1 rfl ?_
  refine v_tcase (k := 0) (tgt := 32) dX8_tally_1 (by decide) (by decide) rfl (by decide) ?_ (fun n1_0 => ?_)
  · refine v_aload_n dX8_tally_32 rfl 0 rfl ?_
    refine gf_X8_badCalls kc0 q338 dX8_tally_33 ?_
    exact v_iret dX8_tally_36
  refine v_tcase (k := 1) (tgt := 37) dX8_tally_1 (by decide) (by decide) rfl (by decide) ?_ (fun n1_1 => ?_)
  · refine v_aload_n dX8_tally_37 rfl 0 rfl ?_
    refine gf_X8_noCalls kc0 q339 dX8_tally_38 ?_
    exact v_iret dX8_tally_41
  refine v_tcase (k := 2) (tgt := 42) dX8_tally_1 (by decide) (by decide) rfl (by decide) ?_ (fun n1_2 => ?_)
  · refine v_aload_n dX8_tally_42 rfl 0 rfl ?_
    refine gf_X8_fullCalls kc0 q340 dX8_tally_43 ?_
    exact v_iret dX8_tally_46
  refine v_tcase (k := 3) (tgt := 47) dX8_tally_1 (by decide) (by decide) rfl (by decide) ?_ (fun n1_3 => ?_)
  · refine v_aload_n dX8_tally_47 rfl 0 rfl ?_
    refine gf_X8_text kc0 q333 dX8_tally_48 ?_
    refine gf_X4_length kc1 q102 dX8_tally_51 ?_
    exact v_iret dX8_tally_54
  refine v_tout (tgt := 55) dX8_tally_1 (by have en1_0 := lv_neT (a := 0) n1_0 rfl; have en1_1 := lv_neT (a := 1) n1_1 rfl; have en1_2 := lv_neT (a := 2) n1_2 rfl; have en1_3 := lv_neT (a := 3) n1_3 rfl; omega) (by decide) ?_
  refine v_aload_n dX8_tally_55 rfl 0 rfl ?_
  refine gf_X8_history kc0 q337 dX8_tally_56 ?_
  refine gf_X0_count kc54 q327 dX8_tally_59 ?_
  exact v_iret dX8_tally_62

def rm_X8_told : Room := { frames := 1, cells := 0, slots := 0, locals := 22 }
def f_X8_told (m0 : Mem) (x1 : Int32) : Option (Mem × Int32) := bm (f_X8_isWithin m0 x1 0 4) (fun m1 r1 => if r1 = 0 then (bm (f_X8_refuse m1 (-10002)) (fun m3 r3 => some (m3, r3))) else (bm (f_X8_tally m1 x1) (fun m2 r2 => some (m2, r2))))
theorem c_X8_told (l : Launch) (E : EnvT) (m0 : Mem) (x1 : Int32) : CT l E yX8_told cX8_told 2 (some .int) (rm_X8_told) rvI (f_X8_told m0 x1) [.ref (eAd E 0), .int x1] m0 := by
  refine CT.ofV (own := RX8) (by decide) rfl (Nat.le_of_ble_eq_true rfl) ?_
  show V l E RX8 cX8_told 2 (some .int) (rm_X8_told) 0 0 (Zm E) rvI _ m0 0 [(0, .ref (eAd E 0)), (1, .int x1)] []
  unfold f_X8_told
  refine v_iload_n dX8_told_0 rfl 1 rfl ?_
  refine v_iconst (v := 0) dX8_told_1 rfl ?_
  refine v_iconst (v := 4) dX8_told_2 rfl ?_
  refine v_callSi (As := [.int x1, .int 0, .int 4]) (rest := []) (c_X8_isWithin l E m0 x1 0 4) ks_X8_isWithin q370 ⟨rfl, rfl⟩ ⟨Nat.le_of_ble_eq_true rfl, Nat.le_of_ble_eq_true rfl⟩ ⟨Nat.zero_le _, Nat.zero_le _⟩ rfl rfl (Nat.le_of_ble_eq_true rfl) dX8_told_3 (fun m1 r1 => ?_)
  refine v_if_ne (tgt := 17) dX8_told_6 (by decide) ?_ ?_
  · refine v_aload_n dX8_told_17 rfl 0 rfl ?_
    refine v_iload_n dX8_told_18 rfl 1 rfl ?_
    refine v_callVi (q := 0) (ci := 8) (C := RX8) (T := TX8) (NN := 8) (As := [.int x1]) (rest := []) (c_X8_tally l E m1 x1) kv_X8_tally kc0 (by decide) rfl q797 ⟨rfl, rfl⟩ ⟨Nat.le_of_ble_eq_true rfl, Nat.le_of_ble_eq_true rfl⟩ ⟨Nat.zero_le _, Nat.zero_le _⟩ rfl rfl (Nat.le_of_ble_eq_true rfl) dX8_told_19 (fun m2 r2 => ?_)
    exact v_iret dX8_told_22
  · refine v_aload_n dX8_told_9 rfl 0 rfl ?_
    refine v_sipush (v := (-10002)) dX8_told_10 rfl ?_
    refine v_callVi (q := 0) (ci := 8) (C := RX8) (T := TX8) (NN := 8) (As := [.int (-10002)]) (rest := []) (c_X8_refuse l E m1 (-10002)) kv_X8_refuse kc0 (by decide) rfl q373 ⟨rfl, rfl⟩ ⟨Nat.le_of_ble_eq_true rfl, Nat.le_of_ble_eq_true rfl⟩ ⟨Nat.zero_le _, Nat.zero_le _⟩ rfl rfl (Nat.le_of_ble_eq_true rfl) dX8_told_13 (fun m3 r3 => ?_)
    exact v_iret dX8_told_16

def rm_X8_digestNode : Room := { frames := 2, cells := 0, slots := 0, locals := 45 }
def f_X8_digestNode_47b (N : Nat) (rec_47 : Mem → Int32 → Int64 → Int32 → Option (Mem × Int64)) (m0 : Mem) (x3 : Int32) (x4 : Int64) (x6 : Int32) : Option (Mem × Int64) := if 3 < x6 then (some (m0, x4)) else (bm (f_X3_numberOf 43 m0 x3 x6) (fun m1 r1 => (rec_47 m1 x3 ((31 * x4) + (r1.toInt64)) (x6 + 1))))
def f_X8_digestNode_47 (N : Nat) : Nat → Mem → Int32 → Int64 → Int32 → Option (Mem × Int64)
  | 0 => fun _ _ _ _ => none
  | n + 1 => f_X8_digestNode_47b N (f_X8_digestNode_47 N n)
theorem w_X8_digestNode_47b (l : Launch) (E : EnvT) (N : Nat) (rec_47 : Mem → Int32 → Int64 → Int32 → Option (Mem × Int64)) (hrec_47 : ∀ (m0 : Mem) (x3 : Int32) (x4 : Int64) (x6 : Int32), V l E RX8 cX8_digestNode 7 (some .long) (rm_X8_digestNode) 0 0 (Zm E) rvL (rec_47 m0 x3 x4 x6) m0 47 [(0, .ref (eAd E 0)), (3, .int x3), (4, .long x4), (6, .int x6)] []) (m0 : Mem) (x3 : Int32) (x4 : Int64) (x6 : Int32) : V l E RX8 cX8_digestNode 7 (some .long) (rm_X8_digestNode) 0 0 (Zm E) rvL (f_X8_digestNode_47b N rec_47 m0 x3 x4 x6) m0 47 [(0, .ref (eAd E 0)), (3, .int x3), (4, .long x4), (6, .int x6)] [] := by
  unfold f_X8_digestNode_47b
  refine v_iload dX8_digestNode_47 3 rfl ?_
  refine v_iconst (v := 3) dX8_digestNode_49 rfl ?_
  refine v_icmp_gt (tgt := 79) dX8_digestNode_50 (by decide) ?_ ?_
  · refine v_lload dX8_digestNode_79 2 rfl ?_
    exact v_lret dX8_digestNode_81
  · refine v_ldc2 q806 dX8_digestNode_53 ?_
    refine v_lload dX8_digestNode_56 2 rfl ?_
    refine v_lmul dX8_digestNode_58 ?_
    refine v_aload_n dX8_digestNode_59 rfl 0 rfl ?_
    refine gf_X8_now kc0 q336 dX8_digestNode_60 ?_
    refine v_iload_n dX8_digestNode_63 rfl 1 rfl ?_
    refine v_iload dX8_digestNode_64 3 rfl ?_
    refine v_callVi (q := 43) (ci := 3) (C := RX3) (T := TX3) (NN := 17) (As := [.int x3, .int x6]) (rest := [.long (31 * x4)]) (c_X3_numberOf l E 43 st43 m0 x3 x6) kv_X3_numberOf kc43 (by decide) rfl q454 ⟨rfl, rfl⟩ ⟨Nat.le_of_ble_eq_true rfl, Nat.le_of_ble_eq_true rfl⟩ ⟨Nat.zero_le _, Nat.zero_le _⟩ rfl rfl (Nat.le_of_ble_eq_true rfl) dX8_digestNode_66 (fun m1 r1 => ?_)
    refine v_i2l dX8_digestNode_69 ?_
    refine v_ladd dX8_digestNode_70 ?_
    refine v_lstore (lv' := [(4, .long ((31 * x4) + (r1.toInt64))), (0, .ref (eAd E 0)), (3, .int x3), (6, .int x6)]) dX8_digestNode_71 (Nat.le_of_ble_eq_true rfl) rfl ?_
    refine v_iinc (v := (x6 + 1)) (lv' := [(6, .int (x6 + 1)), (4, .long ((31 * x4) + (r1.toInt64))), (0, .ref (eAd E 0)), (3, .int x3)]) dX8_digestNode_73 3 rfl rfl (Nat.le_of_ble_eq_true rfl) rfl ?_
    refine v_goto (tgt := 47) dX8_digestNode_76 (by decide) ?_
    refine v_sub [2, 3, 1, 0] rfl ?_
    exact hrec_47 m1 x3 ((31 * x4) + (r1.toInt64)) (x6 + 1)
theorem w_X8_digestNode_47 (l : Launch) (E : EnvT) (N : Nat) : ∀ (n : Nat) (m0 : Mem) (x3 : Int32) (x4 : Int64) (x6 : Int32), V l E RX8 cX8_digestNode 7 (some .long) (rm_X8_digestNode) 0 0 (Zm E) rvL (f_X8_digestNode_47 N n m0 x3 x4 x6) m0 47 [(0, .ref (eAd E 0)), (3, .int x3), (4, .long x4), (6, .int x6)] [] := by
  intro n
  induction n with
  | zero => intros; exact v_none
  | succ n ih => exact w_X8_digestNode_47b l E N _ ih
def f_X8_digestNode_6b (N : Nat) (rec_6 : Mem → Int32 → Int64 → Int32 → Option (Mem × Int64)) (m0 : Mem) (x3 : Int32) (x4 : Int64) (x6 : Int32) : Option (Mem × Int64) := if 8 < x6 then (bm (f_X8_isValueNode m0 x3) (fun m1 r1 => if r1 = 0 then (some (m1, x4)) else (f_X8_digestNode_47 N N m1 x3 x4 1))) else (bm (f_X8_nodeReading m0 x3 x6) (fun m2 r2 => (rec_6 m2 x3 ((31 * x4) + (r2.toInt64)) (x6 + 1))))
def f_X8_digestNode_6 (N : Nat) : Nat → Mem → Int32 → Int64 → Int32 → Option (Mem × Int64)
  | 0 => fun _ _ _ _ => none
  | n + 1 => f_X8_digestNode_6b N (f_X8_digestNode_6 N n)
theorem w_X8_digestNode_6b (l : Launch) (E : EnvT) (N : Nat) (rec_6 : Mem → Int32 → Int64 → Int32 → Option (Mem × Int64)) (hrec_6 : ∀ (m0 : Mem) (x3 : Int32) (x4 : Int64) (x6 : Int32), V l E RX8 cX8_digestNode 7 (some .long) (rm_X8_digestNode) 0 0 (Zm E) rvL (rec_6 m0 x3 x4 x6) m0 6 [(0, .ref (eAd E 0)), (3, .int x3), (4, .long x4), (6, .int x6)] []) (m0 : Mem) (x3 : Int32) (x4 : Int64) (x6 : Int32) : V l E RX8 cX8_digestNode 7 (some .long) (rm_X8_digestNode) 0 0 (Zm E) rvL (f_X8_digestNode_6b N rec_6 m0 x3 x4 x6) m0 6 [(0, .ref (eAd E 0)), (3, .int x3), (4, .long x4), (6, .int x6)] [] := by
  unfold f_X8_digestNode_6b
  refine v_iload dX8_digestNode_6 3 rfl ?_
  refine v_bipush (v := 8) dX8_digestNode_8 rfl ?_
  refine v_icmp_gt (tgt := 36) dX8_digestNode_10 (by decide) ?_ ?_
  · refine v_aload_n dX8_digestNode_36 rfl 0 rfl ?_
    refine v_iload_n dX8_digestNode_37 rfl 1 rfl ?_
    refine v_callVi (q := 0) (ci := 8) (C := RX8) (T := TX8) (NN := 8) (As := [.int x3]) (rest := []) (c_X8_isValueNode l E m0 x3) kv_X8_isValueNode kc0 (by decide) rfl q437 ⟨rfl, rfl⟩ ⟨Nat.le_of_ble_eq_true rfl, Nat.le_of_ble_eq_true rfl⟩ ⟨Nat.zero_le _, Nat.zero_le _⟩ rfl rfl (Nat.le_of_ble_eq_true rfl) dX8_digestNode_38 (fun m1 r1 => ?_)
    refine v_if_eq (tgt := 79) dX8_digestNode_41 (by decide) ?_ ?_
    · refine v_lload dX8_digestNode_79 2 rfl ?_
      exact v_lret dX8_digestNode_81
    · refine v_iconst (v := 1) dX8_digestNode_44 rfl ?_
      refine v_istore (lv' := [(6, .int 1), (0, .ref (eAd E 0)), (3, .int x3), (4, .long x4)]) dX8_digestNode_45 (Nat.le_of_ble_eq_true rfl) rfl ?_
      refine v_sub [1, 2, 3, 0] rfl ?_
      exact w_X8_digestNode_47 l E N N m1 x3 x4 1
  · refine v_ldc2 q806 dX8_digestNode_13 ?_
    refine v_lload dX8_digestNode_16 2 rfl ?_
    refine v_lmul dX8_digestNode_18 ?_
    refine v_aload_n dX8_digestNode_19 rfl 0 rfl ?_
    refine v_iload_n dX8_digestNode_20 rfl 1 rfl ?_
    refine v_iload dX8_digestNode_21 3 rfl ?_
    refine v_callVi (q := 0) (ci := 8) (C := RX8) (T := TX8) (NN := 8) (As := [.int x3, .int x6]) (rest := [.long (31 * x4)]) (c_X8_nodeReading l E m0 x3 x6) kv_X8_nodeReading kc0 (by decide) rfl q446 ⟨rfl, rfl⟩ ⟨Nat.le_of_ble_eq_true rfl, Nat.le_of_ble_eq_true rfl⟩ ⟨Nat.zero_le _, Nat.zero_le _⟩ rfl rfl (Nat.le_of_ble_eq_true rfl) dX8_digestNode_23 (fun m2 r2 => ?_)
    refine v_i2l dX8_digestNode_26 ?_
    refine v_ladd dX8_digestNode_27 ?_
    refine v_lstore (lv' := [(4, .long ((31 * x4) + (r2.toInt64))), (0, .ref (eAd E 0)), (3, .int x3), (6, .int x6)]) dX8_digestNode_28 (Nat.le_of_ble_eq_true rfl) rfl ?_
    refine v_iinc (v := (x6 + 1)) (lv' := [(6, .int (x6 + 1)), (4, .long ((31 * x4) + (r2.toInt64))), (0, .ref (eAd E 0)), (3, .int x3)]) dX8_digestNode_30 3 rfl rfl (Nat.le_of_ble_eq_true rfl) rfl ?_
    refine v_goto (tgt := 6) dX8_digestNode_33 (by decide) ?_
    refine v_sub [2, 3, 1, 0] rfl ?_
    exact hrec_6 m2 x3 ((31 * x4) + (r2.toInt64)) (x6 + 1)
theorem w_X8_digestNode_6 (l : Launch) (E : EnvT) (N : Nat) : ∀ (n : Nat) (m0 : Mem) (x3 : Int32) (x4 : Int64) (x6 : Int32), V l E RX8 cX8_digestNode 7 (some .long) (rm_X8_digestNode) 0 0 (Zm E) rvL (f_X8_digestNode_6 N n m0 x3 x4 x6) m0 6 [(0, .ref (eAd E 0)), (3, .int x3), (4, .long x4), (6, .int x6)] [] := by
  intro n
  induction n with
  | zero => intros; exact v_none
  | succ n ih => exact w_X8_digestNode_6b l E N _ ih
def f_X8_digestNode (N : Nat) (m0 : Mem) (x1 : Int64) (x3 : Int32) : Option (Mem × Int64) := (f_X8_digestNode_6 N N m0 x3 x1 0)
theorem c_X8_digestNode (l : Launch) (E : EnvT) (N : Nat) (m0 : Mem) (x1 : Int64) (x3 : Int32) : CT l E yX8_digestNode cX8_digestNode 7 (some .long) (rm_X8_digestNode) rvL (f_X8_digestNode N m0 x1 x3) [.ref (eAd E 0), .long x1, .int x3] m0 := by
  refine CT.ofV (own := RX8) (by decide) rfl (Nat.le_of_ble_eq_true rfl) ?_
  show V l E RX8 cX8_digestNode 7 (some .long) (rm_X8_digestNode) 0 0 (Zm E) rvL _ m0 0 [(0, .ref (eAd E 0)), (1, .long x1), (3, .int x3)] []
  unfold f_X8_digestNode
  refine v_lload_n dX8_digestNode_0 rfl 1 rfl ?_
  refine v_lstore (lv' := [(4, .long x1), (0, .ref (eAd E 0)), (1, .long x1), (3, .int x3)]) dX8_digestNode_1 (Nat.le_of_ble_eq_true rfl) rfl ?_
  refine v_iconst (v := 0) dX8_digestNode_3 rfl ?_
  refine v_istore (lv' := [(6, .int 0), (4, .long x1), (0, .ref (eAd E 0)), (1, .long x1), (3, .int x3)]) dX8_digestNode_4 (Nat.le_of_ble_eq_true rfl) rfl ?_
  refine v_sub [2, 4, 1, 0] rfl ?_
  exact w_X8_digestNode_6 l E N N m0 x3 x1 0

def rm_X2_digestFrom : Room := { frames := 1, cells := 0, slots := 0, locals := 21 }
def f_X2_digestFrom_5b (N : Nat) (k0 : Nat) (rec_5 : Mem → Int64 → Int32 → Option (Mem × Int64)) (m0 : Mem) (x3 : Int64) (x5 : Int32) : Option (Mem × Int64) := if (m0 k0 1) ≤ x5 then (some (m0, x3)) else (bm (f_X2_at k0 m0 x5) (fun m1 r1 => (rec_5 m1 ((31 * x3) + (r1.toInt64)) (x5 + 1))))
def f_X2_digestFrom_5 (N : Nat) (k0 : Nat) : Nat → Mem → Int64 → Int32 → Option (Mem × Int64)
  | 0 => fun _ _ _ => none
  | n + 1 => f_X2_digestFrom_5b N k0 (f_X2_digestFrom_5 N k0 n)
theorem w_X2_digestFrom_5b (l : Launch) (E : EnvT) (N : Nat) (k0 : Nat) (hk0 : kd k0 = 2) (rec_5 : Mem → Int64 → Int32 → Option (Mem × Int64)) (hrec_5 : ∀ (m0 : Mem) (x3 : Int64) (x5 : Int32), V l E RX2 cX2_digestFrom 6 (some .long) (rm_X2_digestFrom) 0 0 (Zm E) rvL (rec_5 m0 x3 x5) m0 5 [(0, .ref (eAd E k0)), (3, .long x3), (5, .int x5)] []) (m0 : Mem) (x3 : Int64) (x5 : Int32) : V l E RX2 cX2_digestFrom 6 (some .long) (rm_X2_digestFrom) 0 0 (Zm E) rvL (f_X2_digestFrom_5b N k0 rec_5 m0 x3 x5) m0 5 [(0, .ref (eAd E k0)), (3, .long x3), (5, .int x5)] [] := by
  unfold f_X2_digestFrom_5b
  refine v_iload dX2_digestFrom_5 2 rfl ?_
  refine v_aload_n dX2_digestFrom_7 rfl 0 rfl ?_
  refine gf_X2_count hk0 q247 dX2_digestFrom_8 ?_
  refine v_icmp_ge (tgt := 34) dX2_digestFrom_11 (by decide) ?_ ?_
  · refine v_lload_n dX2_digestFrom_34 rfl 1 rfl ?_
    exact v_lret dX2_digestFrom_35
  · refine v_ldc2 q815 dX2_digestFrom_14 ?_
    refine v_lload_n dX2_digestFrom_17 rfl 1 rfl ?_
    refine v_lmul dX2_digestFrom_18 ?_
    refine v_aload_n dX2_digestFrom_19 rfl 0 rfl ?_
    refine v_iload dX2_digestFrom_20 2 rfl ?_
    refine v_callVi (q := k0) (ci := 2) (C := RX2) (T := TX2) (NN := 2) (As := [.int x5]) (rest := [.long (31 * x3)]) (c_X2_at l E k0 hk0 m0 x5) kv_X2_at hk0 (by decide) rfl q727 ⟨rfl, rfl⟩ ⟨Nat.le_of_ble_eq_true rfl, Nat.le_of_ble_eq_true rfl⟩ ⟨Nat.zero_le _, Nat.zero_le _⟩ rfl rfl (Nat.le_of_ble_eq_true rfl) dX2_digestFrom_22 (fun m1 r1 => ?_)
    refine v_i2l dX2_digestFrom_25 ?_
    refine v_ladd dX2_digestFrom_26 ?_
    refine v_lstore_n (lv' := [(3, .long ((31 * x3) + (r1.toInt64))), (0, .ref (eAd E k0)), (5, .int x5)]) dX2_digestFrom_27 rfl (Nat.le_of_ble_eq_true rfl) rfl ?_
    refine v_iinc (v := (x5 + 1)) (lv' := [(5, .int (x5 + 1)), (3, .long ((31 * x3) + (r1.toInt64))), (0, .ref (eAd E k0))]) dX2_digestFrom_28 2 rfl rfl (Nat.le_of_ble_eq_true rfl) rfl ?_
    refine v_goto (tgt := 5) dX2_digestFrom_31 (by decide) ?_
    refine v_sub [2, 1, 0] rfl ?_
    exact hrec_5 m1 ((31 * x3) + (r1.toInt64)) (x5 + 1)
theorem w_X2_digestFrom_5 (l : Launch) (E : EnvT) (N : Nat) (k0 : Nat) (hk0 : kd k0 = 2) : ∀ (n : Nat) (m0 : Mem) (x3 : Int64) (x5 : Int32), V l E RX2 cX2_digestFrom 6 (some .long) (rm_X2_digestFrom) 0 0 (Zm E) rvL (f_X2_digestFrom_5 N k0 n m0 x3 x5) m0 5 [(0, .ref (eAd E k0)), (3, .long x3), (5, .int x5)] [] := by
  intro n
  induction n with
  | zero => intros; exact v_none
  | succ n ih => exact w_X2_digestFrom_5b l E N k0 hk0 _ ih
def f_X2_digestFrom (N : Nat) (k0 : Nat) (m0 : Mem) (x1 : Int64) : Option (Mem × Int64) := (f_X2_digestFrom_5 N k0 N m0 x1 0)
theorem c_X2_digestFrom (l : Launch) (E : EnvT) (N : Nat) (k0 : Nat) (hk0 : kd k0 = 2) (m0 : Mem) (x1 : Int64) : CT l E yX2_digestFrom cX2_digestFrom 6 (some .long) (rm_X2_digestFrom) rvL (f_X2_digestFrom N k0 m0 x1) [.ref (eAd E k0), .long x1] m0 := by
  refine CT.ofV (own := RX2) (by decide) rfl (Nat.le_of_ble_eq_true rfl) ?_
  show V l E RX2 cX2_digestFrom 6 (some .long) (rm_X2_digestFrom) 0 0 (Zm E) rvL _ m0 0 [(0, .ref (eAd E k0)), (1, .long x1)] []
  unfold f_X2_digestFrom
  refine v_lload_n dX2_digestFrom_0 rfl 1 rfl ?_
  refine v_lstore_n (lv' := [(3, .long x1), (0, .ref (eAd E k0)), (1, .long x1)]) dX2_digestFrom_1 rfl (Nat.le_of_ble_eq_true rfl) rfl ?_
  refine v_iconst (v := 0) dX2_digestFrom_2 rfl ?_
  refine v_istore (lv' := [(5, .int 0), (3, .long x1), (0, .ref (eAd E k0)), (1, .long x1)]) dX2_digestFrom_3 (Nat.le_of_ble_eq_true rfl) rfl ?_
  refine v_sub [2, 1, 0] rfl ?_
  exact w_X2_digestFrom_5 l E N k0 hk0 N m0 x1 0

def rm_X8_digest : Room := { frames := 3, cells := 0, slots := 0, locals := 71 }
def f_X8_digest_92 (N : Nat) (m0 : Mem) (x1 : Int64) : Option (Mem × Int64) := bm (f_X2_digestFrom N 48 m0 x1) (fun m1 r1 => bm (f_X2_digestFrom N 50 m1 r1) (fun m2 r2 => bm (f_X2_digestFrom N 52 m2 r2) (fun m3 r3 => some (m3, r3))))
theorem w_X8_digest_92 (l : Launch) (E : EnvT) (N : Nat) (m0 : Mem) (x1 : Int64) : V l E RX8 cX8_digest 4 (some .long) (rm_X8_digest) 0 0 (Zm E) rvL (f_X8_digest_92 N m0 x1) m0 92 [(0, .ref (eAd E 0)), (1, .long x1)] [] := by
  unfold f_X8_digest_92
  refine v_aload_n dX8_digest_92 rfl 0 rfl ?_
  refine gf_X8_now kc0 q336 dX8_digest_93 ?_
  refine gf_X3_answers kc43 q265 dX8_digest_96 ?_
  refine v_lload_n dX8_digest_99 rfl 1 rfl ?_
  refine v_callVl (q := 48) (ci := 2) (C := RX2) (T := TX2) (NN := 2) (As := [.long x1]) (rest := []) (c_X2_digestFrom l E N 48 (kst5 st43) m0 x1) kv_X2_digestFrom (kst5 st43) (by decide) rfl q811 ⟨rfl, rfl⟩ ⟨Nat.le_of_ble_eq_true rfl, Nat.le_of_ble_eq_true rfl⟩ ⟨Nat.zero_le _, Nat.zero_le _⟩ rfl rfl (Nat.le_of_ble_eq_true rfl) dX8_digest_100 (fun m1 r1 => ?_)
  refine v_lstore_n (lv' := [(1, .long r1), (0, .ref (eAd E 0))]) dX8_digest_103 rfl (Nat.le_of_ble_eq_true rfl) rfl ?_
  refine v_aload_n dX8_digest_104 rfl 1 rfl ?_
  refine gf_X8_now kc0 q336 dX8_digest_105 ?_
  refine gf_X3_faults kc43 q267 dX8_digest_108 ?_
  refine v_lload_n dX8_digest_111 rfl 0 rfl ?_
  refine v_callVl (q := 50) (ci := 2) (C := RX2) (T := TX2) (NN := 2) (As := [.long r1]) (rest := []) (c_X2_digestFrom l E N 50 (kst7 st43) m1 r1) kv_X2_digestFrom (kst7 st43) (by decide) rfl q811 ⟨rfl, rfl⟩ ⟨Nat.le_of_ble_eq_true rfl, Nat.le_of_ble_eq_true rfl⟩ ⟨Nat.zero_le _, Nat.zero_le _⟩ rfl rfl (Nat.le_of_ble_eq_true rfl) dX8_digest_112 (fun m2 r2 => ?_)
  refine v_lstore_n (lv' := [(1, .long r2), (0, .ref (eAd E 0))]) dX8_digest_115 rfl (Nat.le_of_ble_eq_true rfl) rfl ?_
  refine v_aload_n dX8_digest_116 rfl 1 rfl ?_
  refine gf_X8_now kc0 q336 dX8_digest_117 ?_
  refine gf_X3_pending kc43 q269 dX8_digest_120 ?_
  refine v_lload_n dX8_digest_123 rfl 0 rfl ?_
  refine v_callVl (q := 52) (ci := 2) (C := RX2) (T := TX2) (NN := 2) (As := [.long r2]) (rest := []) (c_X2_digestFrom l E N 52 (kst9 st43) m2 r2) kv_X2_digestFrom (kst9 st43) (by decide) rfl q811 ⟨rfl, rfl⟩ ⟨Nat.le_of_ble_eq_true rfl, Nat.le_of_ble_eq_true rfl⟩ ⟨Nat.zero_le _, Nat.zero_le _⟩ rfl rfl (Nat.le_of_ble_eq_true rfl) dX8_digest_124 (fun m3 r3 => ?_)
  exact v_lret dX8_digest_127
def f_X8_digest_62b (N : Nat) (rec_62 : Mem → Int64 → Int32 → Option (Mem × Int64)) (m0 : Mem) (x1 : Int64) (x3 : Int32) : Option (Mem × Int64) := if (m0 43 0) ≤ x3 then (f_X8_digest_92 N m0 x1) else (if 16 ≤ x3 then (f_X8_digest_92 N m0 x1) else (bm (f_X8_digestNode N m0 x1 x3) (fun m1 r1 => (rec_62 m1 r1 (x3 + 1)))))
def f_X8_digest_62 (N : Nat) : Nat → Mem → Int64 → Int32 → Option (Mem × Int64)
  | 0 => fun _ _ _ => none
  | n + 1 => f_X8_digest_62b N (f_X8_digest_62 N n)
theorem w_X8_digest_62b (l : Launch) (E : EnvT) (N : Nat) (rec_62 : Mem → Int64 → Int32 → Option (Mem × Int64)) (hrec_62 : ∀ (m0 : Mem) (x1 : Int64) (x3 : Int32), V l E RX8 cX8_digest 4 (some .long) (rm_X8_digest) 0 0 (Zm E) rvL (rec_62 m0 x1 x3) m0 62 [(0, .ref (eAd E 0)), (1, .long x1), (3, .int x3)] []) (m0 : Mem) (x1 : Int64) (x3 : Int32) : V l E RX8 cX8_digest 4 (some .long) (rm_X8_digest) 0 0 (Zm E) rvL (f_X8_digest_62b N rec_62 m0 x1 x3) m0 62 [(0, .ref (eAd E 0)), (1, .long x1), (3, .int x3)] [] := by
  unfold f_X8_digest_62b
  refine v_iload_n dX8_digest_62 rfl 2 rfl ?_
  refine v_aload_n dX8_digest_63 rfl 0 rfl ?_
  refine gf_X8_now kc0 q336 dX8_digest_64 ?_
  refine gf_X3_nodes kc43 q256 dX8_digest_67 ?_
  refine v_icmp_ge (tgt := 92) dX8_digest_70 (by decide) ?_ ?_
  · refine v_sub [0, 1] rfl ?_
    exact w_X8_digest_92 l E N m0 x1
  · refine v_iload_n dX8_digest_73 rfl 2 rfl ?_
    refine v_bipush (v := 16) dX8_digest_74 rfl ?_
    refine v_icmp_ge (tgt := 92) dX8_digest_76 (by decide) ?_ ?_
    · refine v_sub [0, 1] rfl ?_
      exact w_X8_digest_92 l E N m0 x1
    · refine v_aload_n dX8_digest_79 rfl 0 rfl ?_
      refine v_lload_n dX8_digest_80 rfl 1 rfl ?_
      refine v_iload_n dX8_digest_81 rfl 2 rfl ?_
      refine v_callVl (q := 0) (ci := 8) (C := RX8) (T := TX8) (NN := 8) (As := [.long x1, .int x3]) (rest := []) (c_X8_digestNode l E N m0 x1 x3) kv_X8_digestNode kc0 (by decide) rfl q807 ⟨rfl, rfl⟩ ⟨Nat.le_of_ble_eq_true rfl, Nat.le_of_ble_eq_true rfl⟩ ⟨Nat.zero_le _, Nat.zero_le _⟩ rfl rfl (Nat.le_of_ble_eq_true rfl) dX8_digest_82 (fun m1 r1 => ?_)
      refine v_lstore_n (lv' := [(1, .long r1), (0, .ref (eAd E 0)), (3, .int x3)]) dX8_digest_85 rfl (Nat.le_of_ble_eq_true rfl) rfl ?_
      refine v_iinc (v := (x3 + 1)) (lv' := [(3, .int (x3 + 1)), (1, .long r1), (0, .ref (eAd E 0))]) dX8_digest_86 2 rfl rfl (Nat.le_of_ble_eq_true rfl) rfl ?_
      refine v_goto (tgt := 62) dX8_digest_89 (by decide) ?_
      refine v_sub [2, 1, 0] rfl ?_
      exact hrec_62 m1 r1 (x3 + 1)
theorem w_X8_digest_62 (l : Launch) (E : EnvT) (N : Nat) : ∀ (n : Nat) (m0 : Mem) (x1 : Int64) (x3 : Int32), V l E RX8 cX8_digest 4 (some .long) (rm_X8_digest) 0 0 (Zm E) rvL (f_X8_digest_62 N n m0 x1 x3) m0 62 [(0, .ref (eAd E 0)), (1, .long x1), (3, .int x3)] [] := by
  intro n
  induction n with
  | zero => intros; exact v_none
  | succ n ih => exact w_X8_digest_62b l E N _ ih
def f_X8_digest_32b (N : Nat) (rec_32 : Mem → Int64 → Int32 → Option (Mem × Int64)) (m0 : Mem) (x1 : Int64) (x3 : Int32) : Option (Mem × Int64) := if 13 < x3 then (f_X8_digest_62 N N m0 x1 0) else (bm (f_X3_reading 43 m0 x3) (fun m1 r1 => (rec_32 m1 ((31 * x1) + (r1.toInt64)) (x3 + 1))))
def f_X8_digest_32 (N : Nat) : Nat → Mem → Int64 → Int32 → Option (Mem × Int64)
  | 0 => fun _ _ _ => none
  | n + 1 => f_X8_digest_32b N (f_X8_digest_32 N n)
theorem w_X8_digest_32b (l : Launch) (E : EnvT) (N : Nat) (rec_32 : Mem → Int64 → Int32 → Option (Mem × Int64)) (hrec_32 : ∀ (m0 : Mem) (x1 : Int64) (x3 : Int32), V l E RX8 cX8_digest 4 (some .long) (rm_X8_digest) 0 0 (Zm E) rvL (rec_32 m0 x1 x3) m0 32 [(0, .ref (eAd E 0)), (1, .long x1), (3, .int x3)] []) (m0 : Mem) (x1 : Int64) (x3 : Int32) : V l E RX8 cX8_digest 4 (some .long) (rm_X8_digest) 0 0 (Zm E) rvL (f_X8_digest_32b N rec_32 m0 x1 x3) m0 32 [(0, .ref (eAd E 0)), (1, .long x1), (3, .int x3)] [] := by
  unfold f_X8_digest_32b
  refine v_iload_n dX8_digest_32 rfl 2 rfl ?_
  refine v_bipush (v := 13) dX8_digest_33 rfl ?_
  refine v_icmp_gt (tgt := 60) dX8_digest_35 (by decide) ?_ ?_
  · refine v_iconst (v := 0) dX8_digest_60 rfl ?_
    refine v_istore_n (lv' := [(3, .int 0), (0, .ref (eAd E 0)), (1, .long x1)]) dX8_digest_61 rfl (Nat.le_of_ble_eq_true rfl) rfl ?_
    refine v_sub [1, 2, 0] rfl ?_
    exact w_X8_digest_62 l E N N m0 x1 0
  · refine v_ldc2 q806 dX8_digest_38 ?_
    refine v_lload_n dX8_digest_41 rfl 1 rfl ?_
    refine v_lmul dX8_digest_42 ?_
    refine v_aload_n dX8_digest_43 rfl 0 rfl ?_
    refine gf_X8_now kc0 q336 dX8_digest_44 ?_
    refine v_iload_n dX8_digest_47 rfl 2 rfl ?_
    refine v_callVi (q := 43) (ci := 3) (C := RX3) (T := TX3) (NN := 17) (As := [.int x3]) (rest := [.long (31 * x1)]) (c_X3_reading l E 43 st43 m0 x3) kv_X3_reading kc43 (by decide) rfl q768 ⟨rfl, rfl⟩ ⟨Nat.le_of_ble_eq_true rfl, Nat.le_of_ble_eq_true rfl⟩ ⟨Nat.zero_le _, Nat.zero_le _⟩ rfl rfl (Nat.le_of_ble_eq_true rfl) dX8_digest_48 (fun m1 r1 => ?_)
    refine v_i2l dX8_digest_51 ?_
    refine v_ladd dX8_digest_52 ?_
    refine v_lstore_n (lv' := [(1, .long ((31 * x1) + (r1.toInt64))), (0, .ref (eAd E 0)), (3, .int x3)]) dX8_digest_53 rfl (Nat.le_of_ble_eq_true rfl) rfl ?_
    refine v_iinc (v := (x3 + 1)) (lv' := [(3, .int (x3 + 1)), (1, .long ((31 * x1) + (r1.toInt64))), (0, .ref (eAd E 0))]) dX8_digest_54 2 rfl rfl (Nat.le_of_ble_eq_true rfl) rfl ?_
    refine v_goto (tgt := 32) dX8_digest_57 (by decide) ?_
    refine v_sub [2, 1, 0] rfl ?_
    exact hrec_32 m1 ((31 * x1) + (r1.toInt64)) (x3 + 1)
theorem w_X8_digest_32 (l : Launch) (E : EnvT) (N : Nat) : ∀ (n : Nat) (m0 : Mem) (x1 : Int64) (x3 : Int32), V l E RX8 cX8_digest 4 (some .long) (rm_X8_digest) 0 0 (Zm E) rvL (f_X8_digest_32 N n m0 x1 x3) m0 32 [(0, .ref (eAd E 0)), (1, .long x1), (3, .int x3)] [] := by
  intro n
  induction n with
  | zero => intros; exact v_none
  | succ n ih => exact w_X8_digest_32b l E N _ ih
def f_X8_digest_6b (N : Nat) (rec_6 : Mem → Int64 → Int32 → Option (Mem × Int64)) (m0 : Mem) (x1 : Int64) (x3 : Int32) : Option (Mem × Int64) := if 4 < x3 then (f_X8_digest_32 N N m0 x1 0) else (bm (f_X8_tally m0 x3) (fun m1 r1 => (rec_6 m1 ((31 * x1) + (r1.toInt64)) (x3 + 1))))
def f_X8_digest_6 (N : Nat) : Nat → Mem → Int64 → Int32 → Option (Mem × Int64)
  | 0 => fun _ _ _ => none
  | n + 1 => f_X8_digest_6b N (f_X8_digest_6 N n)
theorem w_X8_digest_6b (l : Launch) (E : EnvT) (N : Nat) (rec_6 : Mem → Int64 → Int32 → Option (Mem × Int64)) (hrec_6 : ∀ (m0 : Mem) (x1 : Int64) (x3 : Int32), V l E RX8 cX8_digest 4 (some .long) (rm_X8_digest) 0 0 (Zm E) rvL (rec_6 m0 x1 x3) m0 6 [(0, .ref (eAd E 0)), (1, .long x1), (3, .int x3)] []) (m0 : Mem) (x1 : Int64) (x3 : Int32) : V l E RX8 cX8_digest 4 (some .long) (rm_X8_digest) 0 0 (Zm E) rvL (f_X8_digest_6b N rec_6 m0 x1 x3) m0 6 [(0, .ref (eAd E 0)), (1, .long x1), (3, .int x3)] [] := by
  unfold f_X8_digest_6b
  refine v_iload_n dX8_digest_6 rfl 2 rfl ?_
  refine v_iconst (v := 4) dX8_digest_7 rfl ?_
  refine v_icmp_gt (tgt := 30) dX8_digest_8 (by decide) ?_ ?_
  · refine v_iconst (v := 0) dX8_digest_30 rfl ?_
    refine v_istore_n (lv' := [(3, .int 0), (0, .ref (eAd E 0)), (1, .long x1)]) dX8_digest_31 rfl (Nat.le_of_ble_eq_true rfl) rfl ?_
    refine v_sub [1, 2, 0] rfl ?_
    exact w_X8_digest_32 l E N N m0 x1 0
  · refine v_ldc2 q806 dX8_digest_11 ?_
    refine v_lload_n dX8_digest_14 rfl 1 rfl ?_
    refine v_lmul dX8_digest_15 ?_
    refine v_aload_n dX8_digest_16 rfl 0 rfl ?_
    refine v_iload_n dX8_digest_17 rfl 2 rfl ?_
    refine v_callVi (q := 0) (ci := 8) (C := RX8) (T := TX8) (NN := 8) (As := [.int x3]) (rest := [.long (31 * x1)]) (c_X8_tally l E m0 x3) kv_X8_tally kc0 (by decide) rfl q797 ⟨rfl, rfl⟩ ⟨Nat.le_of_ble_eq_true rfl, Nat.le_of_ble_eq_true rfl⟩ ⟨Nat.zero_le _, Nat.zero_le _⟩ rfl rfl (Nat.le_of_ble_eq_true rfl) dX8_digest_18 (fun m1 r1 => ?_)
    refine v_i2l dX8_digest_21 ?_
    refine v_ladd dX8_digest_22 ?_
    refine v_lstore_n (lv' := [(1, .long ((31 * x1) + (r1.toInt64))), (0, .ref (eAd E 0)), (3, .int x3)]) dX8_digest_23 rfl (Nat.le_of_ble_eq_true rfl) rfl ?_
    refine v_iinc (v := (x3 + 1)) (lv' := [(3, .int (x3 + 1)), (1, .long ((31 * x1) + (r1.toInt64))), (0, .ref (eAd E 0))]) dX8_digest_24 2 rfl rfl (Nat.le_of_ble_eq_true rfl) rfl ?_
    refine v_goto (tgt := 6) dX8_digest_27 (by decide) ?_
    refine v_sub [2, 1, 0] rfl ?_
    exact hrec_6 m1 ((31 * x1) + (r1.toInt64)) (x3 + 1)
theorem w_X8_digest_6 (l : Launch) (E : EnvT) (N : Nat) : ∀ (n : Nat) (m0 : Mem) (x1 : Int64) (x3 : Int32), V l E RX8 cX8_digest 4 (some .long) (rm_X8_digest) 0 0 (Zm E) rvL (f_X8_digest_6 N n m0 x1 x3) m0 6 [(0, .ref (eAd E 0)), (1, .long x1), (3, .int x3)] [] := by
  intro n
  induction n with
  | zero => intros; exact v_none
  | succ n ih => exact w_X8_digest_6b l E N _ ih
def f_X8_digest (N : Nat) (m0 : Mem) : Option (Mem × Int64) := (f_X8_digest_6 N N m0 2783 0)
theorem c_X8_digest (l : Launch) (E : EnvT) (N : Nat) (m0 : Mem) : CT l E yX8_digest cX8_digest 4 (some .long) (rm_X8_digest) rvL (f_X8_digest N m0) [.ref (eAd E 0)] m0 := by
  refine CT.ofV (own := RX8) (by decide) rfl (Nat.le_of_ble_eq_true rfl) ?_
  show V l E RX8 cX8_digest 4 (some .long) (rm_X8_digest) 0 0 (Zm E) rvL _ m0 0 [(0, .ref (eAd E 0))] []
  unfold f_X8_digest
  refine v_ldc2 q805 dX8_digest_0 ?_
  refine v_lstore_n (lv' := [(1, .long 2783), (0, .ref (eAd E 0))]) dX8_digest_3 rfl (Nat.le_of_ble_eq_true rfl) rfl ?_
  refine v_iconst (v := 0) dX8_digest_4 rfl ?_
  refine v_istore_n (lv' := [(3, .int 0), (1, .long 2783), (0, .ref (eAd E 0))]) dX8_digest_5 rfl (Nat.le_of_ble_eq_true rfl) rfl ?_
  refine v_sub [2, 1, 0] rfl ?_
  exact w_X8_digest_6 l E N N m0 2783 0
