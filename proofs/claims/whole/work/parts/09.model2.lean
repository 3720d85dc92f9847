def rm_X9_isWordValue : Room := { frames := 3, cells := 0, slots := 0, locals := 62 }
def f_X9_isWordValue_157 (N : Nat) (m0 : Mem) : Option (Mem × Int32) := some (m0, 1)
theorem w_X9_isWordValue_157 (l : Launch) (E : EnvT) (N : Nat) (m0 : Mem) : V l E RX9 cX9_isWordValue 4 (some .boolean) (rm_X9_isWordValue) 0 0 (Zm E) rvI (f_X9_isWordValue_157 N m0) m0 157 [] [] := by
  unfold f_X9_isWordValue_157
  refine v_iconst (v := 1) dX9_isWordValue_157 rfl ?_
  refine v_goto (tgt := 162) dX9_isWordValue_158 (by decide) ?_
  exact v_zret rfl dX9_isWordValue_162
def f_X9_isWordValue_146 (N : Nat) (m0 : Mem) (x2 : Int32) (x3 : Int32) (s1 : Int32) : Option (Mem × Int32) := lm (up m0 111 21 s1) (fun m1 => if x2 = 0 then (if x3 = 0 then (some (m1, 0)) else (f_X9_isWordValue_157 N m1)) else (f_X9_isWordValue_157 N m1))
theorem w_X9_isWordValue_146 (l : Launch) (E : EnvT) (N : Nat) (m0 : Mem) (x2 : Int32) (x3 : Int32) (s1 : Int32) : V l E RX9 cX9_isWordValue 4 (some .boolean) (rm_X9_isWordValue) 0 0 (Zm E) rvI (f_X9_isWordValue_146 N m0 x2 x3 s1) m0 146 [(2, .int x2), (3, .int x3)] [.int s1, .ref (eAd E 111)] := by
  unfold f_X9_isWordValue_146
  refine pf_X9_unitValue kc111 q843 dX9_isWordValue_146 (fun m1 => ?_)
  refine v_iload_n dX9_isWordValue_149 rfl 0 rfl ?_
  refine v_if_ne (tgt := 157) dX9_isWordValue_150 (by decide) ?_ ?_
  · refine v_sub [] rfl ?_
    exact w_X9_isWordValue_157 l E N m1
  · refine v_iload_n dX9_isWordValue_153 rfl 1 rfl ?_
    refine v_if_eq (tgt := 161) dX9_isWordValue_154 (by decide) ?_ ?_
    · refine v_iconst (v := 0) dX9_isWordValue_161 rfl ?_
      exact v_zret rfl dX9_isWordValue_162
    · refine v_sub [] rfl ?_
      exact w_X9_isWordValue_157 l E N m1
def f_X9_isWordValue_135 (N : Nat) (m0 : Mem) (x2 : Int32) (s0 : Int32) : Option (Mem × Int32) := if x2 = 0 then (f_X9_isWordValue_146 N m0 x2 s0 0) else (f_X9_isWordValue_146 N m0 x2 s0 1)
theorem w_X9_isWordValue_135 (l : Launch) (E : EnvT) (N : Nat) (m0 : Mem) (x2 : Int32) (s0 : Int32) : V l E RX9 cX9_isWordValue 4 (some .boolean) (rm_X9_isWordValue) 0 0 (Zm E) rvI (f_X9_isWordValue_135 N m0 x2 s0) m0 135 [(0, .ref (eAd E 111)), (2, .int x2)] [.int s0] := by
  unfold f_X9_isWordValue_135
  refine v_istore_n (lv' := [(3, .int s0), (0, .ref (eAd E 111)), (2, .int x2)]) dX9_isWordValue_135 rfl (Nat.le_of_ble_eq_true rfl) rfl ?_
  refine v_aload_n dX9_isWordValue_136 rfl 1 rfl ?_
  refine v_iload_n dX9_isWordValue_137 rfl 2 rfl ?_
  refine v_if_eq (tgt := 145) dX9_isWordValue_138 (by decide) ?_ ?_
  · refine v_iconst (v := 0) dX9_isWordValue_145 rfl ?_
    refine v_sub [2, 0] rfl ?_
    exact w_X9_isWordValue_146 l E N m0 x2 s0 0
  · refine v_iconst (v := 1) dX9_isWordValue_141 rfl ?_
    refine v_goto (tgt := 146) dX9_isWordValue_142 (by decide) ?_
    refine v_sub [2, 0] rfl ?_
    exact w_X9_isWordValue_146 l E N m0 x2 s0 1
def f_X9_isWordValue_134 (N : Nat) (m0 : Mem) (x2 : Int32) : Option (Mem × Int32) := (f_X9_isWordValue_135 N m0 x2 0)
theorem w_X9_isWordValue_134 (l : Launch) (E : EnvT) (N : Nat) (m0 : Mem) (x2 : Int32) : V l E RX9 cX9_isWordValue 4 (some .boolean) (rm_X9_isWordValue) 0 0 (Zm E) rvI (f_X9_isWordValue_134 N m0 x2) m0 134 [(0, .ref (eAd E 111)), (2, .int x2)] [] := by
  unfold f_X9_isWordValue_134
  refine v_iconst (v := 0) dX9_isWordValue_134 rfl ?_
  exact w_X9_isWordValue_135 l E N m0 x2 0
def f_X9_isWordValue_73 (N : Nat) (m0 : Mem) (x1 : Int32) (s0 : Int32) : Option (Mem × Int32) := if ((m0 111 16) - x1) = 3 then (gd (inR x1 100) (bm (f_X9_small m0 (m0 116 (ix x1))) (fun m1 r1 => if r1 = 111 then (gd (inR (x1 + 1) 100) (bm (f_X9_small m1 (m1 116 (ix (x1 + 1)))) (fun m2 r2 => if r2 = 102 then (gd (inR (x1 + 2) 100) (bm (f_X9_small m2 (m2 116 (ix (x1 + 2)))) (fun m3 r3 => if r3 = 102 then (f_X9_isWordValue_135 N m3 s0 1) else (f_X9_isWordValue_134 N m3 s0)))) else (f_X9_isWordValue_134 N m2 s0)))) else (f_X9_isWordValue_134 N m1 s0)))) else (f_X9_isWordValue_134 N m0 s0)
theorem w_X9_isWordValue_73 (l : Launch) (E : EnvT) (N : Nat) (m0 : Mem) (x1 : Int32) (s0 : Int32) : V l E RX9 cX9_isWordValue 4 (some .boolean) (rm_X9_isWordValue) 0 0 (Zm E) rvI (f_X9_isWordValue_73 N m0 x1 s0) m0 73 [(0, .ref (eAd E 111)), (1, .int x1)] [.int s0] := by
  unfold f_X9_isWordValue_73
  refine v_istore_n (lv' := [(2, .int s0), (0, .ref (eAd E 111)), (1, .int x1)]) dX9_isWordValue_73 rfl (Nat.le_of_ble_eq_true rfl) rfl ?_
  refine v_aload_n dX9_isWordValue_74 rfl 1 rfl ?_
  refine gf_X9_at kc111 q838 dX9_isWordValue_75 ?_
  refine v_iload_n dX9_isWordValue_78 rfl 2 rfl ?_
  refine v_isub dX9_isWordValue_79 ?_
  refine v_iconst (v := 3) dX9_isWordValue_80 rfl ?_
  refine v_icmp_ne (tgt := 134) dX9_isWordValue_81 (by decide) ?_ ?_
  · refine v_sub [1, 0] rfl ?_
    exact w_X9_isWordValue_134 l E N m0 s0
  · refine v_aload_n dX9_isWordValue_84 rfl 1 rfl ?_
    refine gf_X9_text kc111 q827 dX9_isWordValue_85 ?_
    refine v_iload_n dX9_isWordValue_88 rfl 2 rfl ?_
    refine v_gd (fun g89 => ?_)
    refine v_iald kc116 rfl g89 dX9_isWordValue_89 ?_
    refine v_callSi (As := [.int (m0 116 (ix x1))]) (rest := []) (c_X9_small l E m0 (m0 116 (ix x1))) ks_X9_small q937 ⟨rfl, rfl⟩ ⟨Nat.le_of_ble_eq_true rfl, Nat.le_of_ble_eq_true rfl⟩ ⟨Nat.zero_le _, Nat.zero_le _⟩ rfl rfl (Nat.le_of_ble_eq_true rfl) dX9_isWordValue_90 (fun m1 r1 => ?_)
    refine v_bipush (v := 111) dX9_isWordValue_93 rfl ?_
    refine v_icmp_ne (tgt := 134) dX9_isWordValue_95 (by decide) ?_ ?_
    · refine v_sub [1, 0] rfl ?_
      exact w_X9_isWordValue_134 l E N m1 s0
    · refine v_aload_n dX9_isWordValue_98 rfl 1 rfl ?_
      refine gf_X9_text kc111 q827 dX9_isWordValue_99 ?_
      refine v_iload_n dX9_isWordValue_102 rfl 2 rfl ?_
      refine v_iconst (v := 1) dX9_isWordValue_103 rfl ?_
      refine v_iadd dX9_isWordValue_104 ?_
      refine v_gd (fun g105 => ?_)
      refine v_iald kc116 rfl g105 dX9_isWordValue_105 ?_
      refine v_callSi (As := [.int (m1 116 (ix (x1 + 1)))]) (rest := []) (c_X9_small l E m1 (m1 116 (ix (x1 + 1)))) ks_X9_small q937 ⟨rfl, rfl⟩ ⟨Nat.le_of_ble_eq_true rfl, Nat.le_of_ble_eq_true rfl⟩ ⟨Nat.zero_le _, Nat.zero_le _⟩ rfl rfl (Nat.le_of_ble_eq_true rfl) dX9_isWordValue_106 (fun m2 r2 => ?_)
      refine v_bipush (v := 102) dX9_isWordValue_109 rfl ?_
      refine v_icmp_ne (tgt := 134) dX9_isWordValue_111 (by decide) ?_ ?_
      · refine v_sub [1, 0] rfl ?_
        exact w_X9_isWordValue_134 l E N m2 s0
      · refine v_aload_n dX9_isWordValue_114 rfl 1 rfl ?_
        refine gf_X9_text kc111 q827 dX9_isWordValue_115 ?_
        refine v_iload_n dX9_isWordValue_118 rfl 2 rfl ?_
        refine v_iconst (v := 2) dX9_isWordValue_119 rfl ?_
        refine v_iadd dX9_isWordValue_120 ?_
        refine v_gd (fun g121 => ?_)
        refine v_iald kc116 rfl g121 dX9_isWordValue_121 ?_
        refine v_callSi (As := [.int (m2 116 (ix (x1 + 2)))]) (rest := []) (c_X9_small l E m2 (m2 116 (ix (x1 + 2)))) ks_X9_small q937 ⟨rfl, rfl⟩ ⟨Nat.le_of_ble_eq_true rfl, Nat.le_of_ble_eq_true rfl⟩ ⟨Nat.zero_le _, Nat.zero_le _⟩ rfl rfl (Nat.le_of_ble_eq_true rfl) dX9_isWordValue_122 (fun m3 r3 => ?_)
        refine v_bipush (v := 102) dX9_isWordValue_125 rfl ?_
        refine v_icmp_ne (tgt := 134) dX9_isWordValue_127 (by decide) ?_ ?_
        · refine v_sub [1, 0] rfl ?_
          exact w_X9_isWordValue_134 l E N m3 s0
        · refine v_iconst (v := 1) dX9_isWordValue_130 rfl ?_
          refine v_goto (tgt := 135) dX9_isWordValue_131 (by decide) ?_
          refine v_sub [1, 0] rfl ?_
          exact w_X9_isWordValue_135 l E N m3 s0 1
def f_X9_isWordValue_72 (N : Nat) (m0 : Mem) (x1 : Int32) : Option (Mem × Int32) := (f_X9_isWordValue_73 N m0 x1 0)
theorem w_X9_isWordValue_72 (l : Launch) (E : EnvT) (N : Nat) (m0 : Mem) (x1 : Int32) : V l E RX9 cX9_isWordValue 4 (some .boolean) (rm_X9_isWordValue) 0 0 (Zm E) rvI (f_X9_isWordValue_72 N m0 x1) m0 72 [(0, .ref (eAd E 111)), (1, .int x1)] [] := by
  unfold f_X9_isWordValue_72
  refine v_iconst (v := 0) dX9_isWordValue_72 rfl ?_
  exact w_X9_isWordValue_73 l E N m0 x1 0
def f_X9_isWordValue_5b (N : Nat) (rec_5 : Mem → Int32 → Option (Mem × Int32)) (m0 : Mem) (x1 : Int32) : Option (Mem × Int32) := bm (f_X9_here m0) (fun m1 r1 => bm (f_X9_isLetter m1 r1) (fun m2 r2 => if r2 = 0 then (if ((m2 111 16) - x1) = 2 then (gd (inR x1 100) (bm (f_X9_small m2 (m2 116 (ix x1))) (fun m3 r3 => if r3 = 111 then (gd (inR (x1 + 1) 100) (bm (f_X9_small m3 (m3 116 (ix (x1 + 1)))) (fun m4 r4 => if r4 = 110 then (f_X9_isWordValue_73 N m4 x1 1) else (f_X9_isWordValue_72 N m4 x1)))) else (f_X9_isWordValue_72 N m3 x1)))) else (f_X9_isWordValue_72 N m2 x1)) else (lm (up m2 111 16 ((m2 111 16) + 1)) (fun m5 => (rec_5 m5 x1)))))
def f_X9_isWordValue_5 (N : Nat) : Nat → Mem → Int32 → Option (Mem × Int32)
  | 0 => fun _ _ => none
  | n + 1 => f_X9_isWordValue_5b N (f_X9_isWordValue_5 N n)
theorem w_X9_isWordValue_5b (l : Launch) (E : EnvT) (N : Nat) (rec_5 : Mem → Int32 → Option (Mem × Int32)) (hrec_5 : ∀ (m0 : Mem) (x1 : Int32), V l E RX9 cX9_isWordValue 4 (some .boolean) (rm_X9_isWordValue) 0 0 (Zm E) rvI (rec_5 m0 x1) m0 5 [(0, .ref (eAd E 111)), (1, .int x1)] []) (m0 : Mem) (x1 : Int32) : V l E RX9 cX9_isWordValue 4 (some .boolean) (rm_X9_isWordValue) 0 0 (Zm E) rvI (f_X9_isWordValue_5b N rec_5 m0 x1) m0 5 [(0, .ref (eAd E 111)), (1, .int x1)] [] := by
  unfold f_X9_isWordValue_5b
  refine v_aload_n dX9_isWordValue_5 rfl 0 rfl ?_
  refine v_callVi (q := 111) (ci := 9) (C := RX9) (T := TX9) (NN := 24) (As := []) (rest := []) (c_X9_here l E m0) kv_X9_here kc111 (by decide) rfl q984 ⟨rfl, rfl⟩ ⟨Nat.le_of_ble_eq_true rfl, Nat.le_of_ble_eq_true rfl⟩ ⟨Nat.zero_le _, Nat.zero_le _⟩ rfl rfl (Nat.le_of_ble_eq_true rfl) dX9_isWordValue_6 (fun m1 r1 => ?_)
  refine v_callSi (As := [.int r1]) (rest := []) (c_X9_isLetter l E m1 r1) ks_X9_isLetter q996 ⟨rfl, rfl⟩ ⟨Nat.le_of_ble_eq_true rfl, Nat.le_of_ble_eq_true rfl⟩ ⟨Nat.zero_le _, Nat.zero_le _⟩ rfl rfl (Nat.le_of_ble_eq_true rfl) dX9_isWordValue_9 (fun m2 r2 => ?_)
  refine v_if_eq (tgt := 28) dX9_isWordValue_12 (by decide) ?_ ?_
  · refine v_aload_n dX9_isWordValue_28 rfl 0 rfl ?_
    refine gf_X9_at kc111 q838 dX9_isWordValue_29 ?_
    refine v_iload_n dX9_isWordValue_32 rfl 1 rfl ?_
    refine v_isub dX9_isWordValue_33 ?_
    refine v_iconst (v := 2) dX9_isWordValue_34 rfl ?_
    refine v_icmp_ne (tgt := 72) dX9_isWordValue_35 (by decide) ?_ ?_
    · exact w_X9_isWordValue_72 l E N m2 x1
    · refine v_aload_n dX9_isWordValue_38 rfl 0 rfl ?_
      refine gf_X9_text kc111 q827 dX9_isWordValue_39 ?_
      refine v_iload_n dX9_isWordValue_42 rfl 1 rfl ?_
      refine v_gd (fun g43 => ?_)
      refine v_iald kc116 rfl g43 dX9_isWordValue_43 ?_
      refine v_callSi (As := [.int (m2 116 (ix x1))]) (rest := []) (c_X9_small l E m2 (m2 116 (ix x1))) ks_X9_small q937 ⟨rfl, rfl⟩ ⟨Nat.le_of_ble_eq_true rfl, Nat.le_of_ble_eq_true rfl⟩ ⟨Nat.zero_le _, Nat.zero_le _⟩ rfl rfl (Nat.le_of_ble_eq_true rfl) dX9_isWordValue_44 (fun m3 r3 => ?_)
      refine v_bipush (v := 111) dX9_isWordValue_47 rfl ?_
      refine v_icmp_ne (tgt := 72) dX9_isWordValue_49 (by decide) ?_ ?_
      · exact w_X9_isWordValue_72 l E N m3 x1
      · refine v_aload_n dX9_isWordValue_52 rfl 0 rfl ?_
        refine gf_X9_text kc111 q827 dX9_isWordValue_53 ?_
        refine v_iload_n dX9_isWordValue_56 rfl 1 rfl ?_
        refine v_iconst (v := 1) dX9_isWordValue_57 rfl ?_
        refine v_iadd dX9_isWordValue_58 ?_
        refine v_gd (fun g59 => ?_)
        refine v_iald kc116 rfl g59 dX9_isWordValue_59 ?_
        refine v_callSi (As := [.int (m3 116 (ix (x1 + 1)))]) (rest := []) (c_X9_small l E m3 (m3 116 (ix (x1 + 1)))) ks_X9_small q937 ⟨rfl, rfl⟩ ⟨Nat.le_of_ble_eq_true rfl, Nat.le_of_ble_eq_true rfl⟩ ⟨Nat.zero_le _, Nat.zero_le _⟩ rfl rfl (Nat.le_of_ble_eq_true rfl) dX9_isWordValue_60 (fun m4 r4 => ?_)
        refine v_bipush (v := 110) dX9_isWordValue_63 rfl ?_
        refine v_icmp_ne (tgt := 72) dX9_isWordValue_65 (by decide) ?_ ?_
        · exact w_X9_isWordValue_72 l E N m4 x1
        · refine v_iconst (v := 1) dX9_isWordValue_68 rfl ?_
          refine v_goto (tgt := 73) dX9_isWordValue_69 (by decide) ?_
          exact w_X9_isWordValue_73 l E N m4 x1 1
  · refine v_aload_n dX9_isWordValue_15 rfl 0 rfl ?_
    refine v_dup dX9_isWordValue_16 rfl ?_
    refine gf_X9_at kc111 q838 dX9_isWordValue_17 ?_
    refine v_iconst (v := 1) dX9_isWordValue_20 rfl ?_
    refine v_iadd dX9_isWordValue_21 ?_
    refine pf_X9_at kc111 q838 dX9_isWordValue_22 (fun m5 => ?_)
    refine v_goto (tgt := 5) dX9_isWordValue_25 (by decide) ?_
    exact hrec_5 m5 x1
theorem w_X9_isWordValue_5 (l : Launch) (E : EnvT) (N : Nat) : ∀ (n : Nat) (m0 : Mem) (x1 : Int32), V l E RX9 cX9_isWordValue 4 (some .boolean) (rm_X9_isWordValue) 0 0 (Zm E) rvI (f_X9_isWordValue_5 N n m0 x1) m0 5 [(0, .ref (eAd E 111)), (1, .int x1)] [] := by
  intro n
  induction n with
  | zero => intros; exact v_none
  | succ n ih => exact w_X9_isWordValue_5b l E N _ ih
def f_X9_isWordValue (N : Nat) (m0 : Mem) : Option (Mem × Int32) := (f_X9_isWordValue_5 N N m0 (m0 111 16))
theorem c_X9_isWordValue (l : Launch) (E : EnvT) (N : Nat) (m0 : Mem) : CT l E yX9_isWordValue cX9_isWordValue 4 (some .boolean) (rm_X9_isWordValue) rvI (f_X9_isWordValue N m0) [.ref (eAd E 111)] m0 := by
  refine CT.ofV (own := RX9) (by decide) rfl (Nat.le_of_ble_eq_true rfl) ?_
  show V l E RX9 cX9_isWordValue 4 (some .boolean) (rm_X9_isWordValue) 0 0 (Zm E) rvI _ m0 0 [(0, .ref (eAd E 111))] []
  unfold f_X9_isWordValue
  refine v_aload_n dX9_isWordValue_0 rfl 0 rfl ?_
  refine gf_X9_at kc111 q838 dX9_isWordValue_1 ?_
  refine v_istore_n (lv' := [(1, .int (m0 111 16)), (0, .ref (eAd E 111))]) dX9_isWordValue_4 rfl (Nat.le_of_ble_eq_true rfl) rfl ?_
  refine v_sub [1, 0] rfl ?_
  exact w_X9_isWordValue_5 l E N N m0 (m0 111 16)

def rm_X9_isUnitValue : Room := { frames := 4, cells := 0, slots := 0, locals := 85 }
def f_X9_isUnitValue_156 (N : Nat) (m0 : Mem) (x1 : Int32) (x2 : Int32) : Option (Mem × Int32) := lm (up m0 111 21 ((m0 111 21) * x1)) (fun m1 => bm (f_X9_in m1 x2 1 6) (fun m2 r2 => gd (isB r2) (some (m2, r2))))
theorem w_X9_isUnitValue_156 (l : Launch) (E : EnvT) (N : Nat) (m0 : Mem) (x1 : Int32) (x2 : Int32) : V l E RX9 cX9_isUnitValue 3 (some .boolean) (rm_X9_isUnitValue) 0 0 (Zm E) rvI (f_X9_isUnitValue_156 N m0 x1 x2) m0 156 [(0, .ref (eAd E 111)), (1, .int x1), (2, .int x2)] [] := by
  unfold f_X9_isUnitValue_156
  refine v_aload_n dX9_isUnitValue_156 rfl 0 rfl ?_
  refine v_dup dX9_isUnitValue_157 rfl ?_
  refine gf_X9_unitValue kc111 q843 dX9_isUnitValue_158 ?_
  refine v_iload_n dX9_isUnitValue_161 rfl 1 rfl ?_
  refine v_imul dX9_isUnitValue_162 ?_
  refine pf_X9_unitValue kc111 q843 dX9_isUnitValue_163 (fun m1 => ?_)
  refine v_iload_n dX9_isUnitValue_166 rfl 2 rfl ?_
  refine v_iconst (v := 1) dX9_isUnitValue_167 rfl ?_
  refine v_bipush (v := 6) dX9_isUnitValue_168 rfl ?_
  refine v_callSi (As := [.int x2, .int 1, .int 6]) (rest := []) (c_X9_in l E m1 x2 1 6) ks_X9_in q912 ⟨rfl, rfl⟩ ⟨Nat.le_of_ble_eq_true rfl, Nat.le_of_ble_eq_true rfl⟩ ⟨Nat.zero_le _, Nat.zero_le _⟩ rfl rfl (Nat.le_of_ble_eq_true rfl) dX9_isUnitValue_170 (fun m2 r2 => ?_)
  refine v_gd (fun g173 => ?_)
  exact v_zret g173 dX9_isUnitValue_173
def f_X9_isUnitValue_122 (N : Nat) (m0 : Mem) (x1 : Int32) (x2 : Int32) : Option (Mem × Int32) := bm (f_X9_here m0) (fun m1 r1 => bm (f_X9_small m1 r1) (fun m2 r2 => if r2 = 107 then (lm (up m2 111 21 ((m2 111 21) * 1000)) (fun m3 => lm (up m3 111 16 ((m3 111 16) + 1)) (fun m4 => (f_X9_isUnitValue_156 N m4 x1 x2)))) else (f_X9_isUnitValue_156 N m2 x1 x2)))
theorem w_X9_isUnitValue_122 (l : Launch) (E : EnvT) (N : Nat) (m0 : Mem) (x1 : Int32) (x2 : Int32) : V l E RX9 cX9_isUnitValue 3 (some .boolean) (rm_X9_isUnitValue) 0 0 (Zm E) rvI (f_X9_isUnitValue_122 N m0 x1 x2) m0 122 [(0, .ref (eAd E 111)), (1, .int x1), (2, .int x2)] [] := by
  unfold f_X9_isUnitValue_122
  refine v_aload_n dX9_isUnitValue_122 rfl 0 rfl ?_
  refine v_callVi (q := 111) (ci := 9) (C := RX9) (T := TX9) (NN := 24) (As := []) (rest := []) (c_X9_here l E m0) kv_X9_here kc111 (by decide) rfl q984 ⟨rfl, rfl⟩ ⟨Nat.le_of_ble_eq_true rfl, Nat.le_of_ble_eq_true rfl⟩ ⟨Nat.zero_le _, Nat.zero_le _⟩ rfl rfl (Nat.le_of_ble_eq_true rfl) dX9_isUnitValue_123 (fun m1 r1 => ?_)
  refine v_callSi (As := [.int r1]) (rest := []) (c_X9_small l E m1 r1) ks_X9_small q937 ⟨rfl, rfl⟩ ⟨Nat.le_of_ble_eq_true rfl, Nat.le_of_ble_eq_true rfl⟩ ⟨Nat.zero_le _, Nat.zero_le _⟩ rfl rfl (Nat.le_of_ble_eq_true rfl) dX9_isUnitValue_126 (fun m2 r2 => ?_)
  refine v_bipush (v := 107) dX9_isUnitValue_129 rfl ?_
  refine v_icmp_ne (tgt := 156) dX9_isUnitValue_131 (by decide) ?_ ?_
  · exact w_X9_isUnitValue_156 l E N m2 x1 x2
  · refine v_aload_n dX9_isUnitValue_134 rfl 0 rfl ?_
    refine v_dup dX9_isUnitValue_135 rfl ?_
    refine gf_X9_unitValue kc111 q843 dX9_isUnitValue_136 ?_
    refine v_sipush (v := 1000) dX9_isUnitValue_139 rfl ?_
    refine v_imul dX9_isUnitValue_142 ?_
    refine pf_X9_unitValue kc111 q843 dX9_isUnitValue_143 (fun m3 => ?_)
    refine v_aload_n dX9_isUnitValue_146 rfl 0 rfl ?_
    refine v_dup dX9_isUnitValue_147 rfl ?_
    refine gf_X9_at kc111 q838 dX9_isUnitValue_148 ?_
    refine v_iconst (v := 1) dX9_isUnitValue_151 rfl ?_
    refine v_iadd dX9_isUnitValue_152 ?_
    refine pf_X9_at kc111 q838 dX9_isUnitValue_153 (fun m4 => ?_)
    exact w_X9_isUnitValue_156 l E N m4 x1 x2
def f_X9_isUnitValue_74b (N : Nat) (rec_74 : Mem → Int32 → Int32 → Option (Mem × Int32)) (m0 : Mem) (x1 : Int32) (x2 : Int32) : Option (Mem × Int32) := bm (f_X9_isFigure m0) (fun m1 r1 => if r1 = 0 then (f_X9_isUnitValue_122 N m1 x1 x2) else (if 7 ≤ x2 then (f_X9_isUnitValue_122 N m1 x1 x2) else (bm (f_X9_here m1) (fun m2 r2 => lm (up m2 111 21 (((10 * (m1 111 21)) + r2) - 48)) (fun m3 => lm (up m3 111 16 ((m3 111 16) + 1)) (fun m4 => (rec_74 m4 x1 (x2 + 1))))))))
def f_X9_isUnitValue_74 (N : Nat) : Nat → Mem → Int32 → Int32 → Option (Mem × Int32)
  | 0 => fun _ _ _ => none
  | n + 1 => f_X9_isUnitValue_74b N (f_X9_isUnitValue_74 N n)
theorem w_X9_isUnitValue_74b (l : Launch) (E : EnvT) (N : Nat) (rec_74 : Mem → Int32 → Int32 → Option (Mem × Int32)) (hrec_74 : ∀ (m0 : Mem) (x1 : Int32) (x2 : Int32), V l E RX9 cX9_isUnitValue 3 (some .boolean) (rm_X9_isUnitValue) 0 0 (Zm E) rvI (rec_74 m0 x1 x2) m0 74 [(0, .ref (eAd E 111)), (1, .int x1), (2, .int x2)] []) (m0 : Mem) (x1 : Int32) (x2 : Int32) : V l E RX9 cX9_isUnitValue 3 (some .boolean) (rm_X9_isUnitValue) 0 0 (Zm E) rvI (f_X9_isUnitValue_74b N rec_74 m0 x1 x2) m0 74 [(0, .ref (eAd E 111)), (1, .int x1), (2, .int x2)] [] := by
  unfold f_X9_isUnitValue_74b
  refine v_aload_n dX9_isUnitValue_74 rfl 0 rfl ?_
  refine v_callVi (q := 111) (ci := 9) (C := RX9) (T := TX9) (NN := 24) (As := []) (rest := []) (c_X9_isFigure l E m0) kv_X9_isFigure kc111 (by decide) rfl q1007 ⟨rfl, rfl⟩ ⟨Nat.le_of_ble_eq_true rfl, Nat.le_of_ble_eq_true rfl⟩ ⟨Nat.zero_le _, Nat.zero_le _⟩ rfl rfl (Nat.le_of_ble_eq_true rfl) dX9_isUnitValue_75 (fun m1 r1 => ?_)
  refine v_if_eq (tgt := 122) dX9_isUnitValue_78 (by decide) ?_ ?_
  · exact w_X9_isUnitValue_122 l E N m1 x1 x2
  · refine v_iload_n dX9_isUnitValue_81 rfl 2 rfl ?_
    refine v_bipush (v := 7) dX9_isUnitValue_82 rfl ?_
    refine v_icmp_ge (tgt := 122) dX9_isUnitValue_84 (by decide) ?_ ?_
    · exact w_X9_isUnitValue_122 l E N m1 x1 x2
    · refine v_aload_n dX9_isUnitValue_87 rfl 0 rfl ?_
      refine v_bipush (v := 10) dX9_isUnitValue_88 rfl ?_
      refine v_aload_n dX9_isUnitValue_90 rfl 0 rfl ?_
      refine gf_X9_unitValue kc111 q843 dX9_isUnitValue_91 ?_
      refine v_imul dX9_isUnitValue_94 ?_
      refine v_aload_n dX9_isUnitValue_95 rfl 0 rfl ?_
      refine v_callVi (q := 111) (ci := 9) (C := RX9) (T := TX9) (NN := 24) (As := []) (rest := [.int (10 * (m1 111 21)), .ref (eAd E 111)]) (c_X9_here l E m1) kv_X9_here kc111 (by decide) rfl q984 ⟨rfl, rfl⟩ ⟨Nat.le_of_ble_eq_true rfl, Nat.le_of_ble_eq_true rfl⟩ ⟨Nat.zero_le _, Nat.zero_le _⟩ rfl rfl (Nat.le_of_ble_eq_true rfl) dX9_isUnitValue_96 (fun m2 r2 => ?_)
      refine v_iadd dX9_isUnitValue_99 ?_
      refine v_bipush (v := 48) dX9_isUnitValue_100 rfl ?_
      refine v_isub dX9_isUnitValue_102 ?_
      refine pf_X9_unitValue kc111 q843 dX9_isUnitValue_103 (fun m3 => ?_)
      refine v_iinc (v := (x2 + 1)) (lv' := [(2, .int (x2 + 1)), (0, .ref (eAd E 111)), (1, .int x1)]) dX9_isUnitValue_106 2 rfl rfl (Nat.le_of_ble_eq_true rfl) rfl ?_
      refine v_aload_n dX9_isUnitValue_109 rfl 1 rfl ?_
      refine v_dup dX9_isUnitValue_110 rfl ?_
      refine gf_X9_at kc111 q838 dX9_isUnitValue_111 ?_
      refine v_iconst (v := 1) dX9_isUnitValue_114 rfl ?_
      refine v_iadd dX9_isUnitValue_115 ?_
      refine pf_X9_at kc111 q838 dX9_isUnitValue_116 (fun m4 => ?_)
      refine v_goto (tgt := 74) dX9_isUnitValue_119 (by decide) ?_
      refine v_sub [1, 2, 0] rfl ?_
      exact hrec_74 m4 x1 (x2 + 1)
theorem w_X9_isUnitValue_74 (l : Launch) (E : EnvT) (N : Nat) : ∀ (n : Nat) (m0 : Mem) (x1 : Int32) (x2 : Int32), V l E RX9 cX9_isUnitValue 3 (some .boolean) (rm_X9_isUnitValue) 0 0 (Zm E) rvI (f_X9_isUnitValue_74 N n m0 x1 x2) m0 74 [(0, .ref (eAd E 111)), (1, .int x1), (2, .int x2)] [] := by
  intro n
  induction n with
  | zero => intros; exact v_none
  | succ n ih => exact w_X9_isUnitValue_74b l E N _ ih
def f_X9_isUnitValue_63 (N : Nat) (m0 : Mem) (x1 : Int32) (s1 : Int32) (s2 : Int32) : Option (Mem × Int32) := lm (up m0 111 16 (s1 + s2)) (fun m1 => lm (up m1 111 21 0) (fun m2 => (f_X9_isUnitValue_74 N N m2 x1 0)))
theorem w_X9_isUnitValue_63 (l : Launch) (E : EnvT) (N : Nat) (m0 : Mem) (x1 : Int32) (s1 : Int32) (s2 : Int32) : V l E RX9 cX9_isUnitValue 3 (some .boolean) (rm_X9_isUnitValue) 0 0 (Zm E) rvI (f_X9_isUnitValue_63 N m0 x1 s1 s2) m0 63 [(0, .ref (eAd E 111)), (1, .int x1)] [.int s2, .int s1, .ref (eAd E 111)] := by
  unfold f_X9_isUnitValue_63
  refine v_iadd dX9_isUnitValue_63 ?_
  refine pf_X9_at kc111 q838 dX9_isUnitValue_64 (fun m1 => ?_)
  refine v_iconst (v := 0) dX9_isUnitValue_67 rfl ?_
  refine v_istore_n (lv' := [(2, .int 0), (0, .ref (eAd E 111)), (1, .int x1)]) dX9_isUnitValue_68 rfl (Nat.le_of_ble_eq_true rfl) rfl ?_
  refine v_aload_n dX9_isUnitValue_69 rfl 1 rfl ?_
  refine v_iconst (v := 0) dX9_isUnitValue_70 rfl ?_
  refine pf_X9_unitValue kc111 q843 dX9_isUnitValue_71 (fun m2 => ?_)
  refine v_sub [1, 2, 0] rfl ?_
  exact w_X9_isUnitValue_74 l E N N m2 x1 0
def f_X9_isUnitValue_58 (N : Nat) (m0 : Mem) (x1 : Int32) (s1 : Int32) : Option (Mem × Int32) := (f_X9_isUnitValue_63 N m0 x1 s1 1)
theorem w_X9_isUnitValue_58 (l : Launch) (E : EnvT) (N : Nat) (m0 : Mem) (x1 : Int32) (s1 : Int32) : V l E RX9 cX9_isUnitValue 3 (some .boolean) (rm_X9_isUnitValue) 0 0 (Zm E) rvI (f_X9_isUnitValue_58 N m0 x1 s1) m0 58 [(0, .ref (eAd E 111)), (1, .int x1)] [.int s1, .ref (eAd E 111)] := by
  unfold f_X9_isUnitValue_58
  refine v_iconst (v := 1) dX9_isUnitValue_58 rfl ?_
  refine v_goto (tgt := 63) dX9_isUnitValue_59 (by decide) ?_
  exact w_X9_isUnitValue_63 l E N m0 x1 s1 1
def f_X9_isUnitValue_34 (N : Nat) (m0 : Mem) (s0 : Int32) : Option (Mem × Int32) := bm (f_X9_here m0) (fun m1 r1 => if r1 = 45 then (f_X9_isUnitValue_58 N m1 s0 (m0 111 16)) else (bm (f_X9_here m1) (fun m2 r2 => if r2 = 43 then (f_X9_isUnitValue_58 N m2 s0 (m0 111 16)) else (f_X9_isUnitValue_63 N m2 s0 (m0 111 16) 0))))
theorem w_X9_isUnitValue_34 (l : Launch) (E : EnvT) (N : Nat) (m0 : Mem) (s0 : Int32) : V l E RX9 cX9_isUnitValue 3 (some .boolean) (rm_X9_isUnitValue) 0 0 (Zm E) rvI (f_X9_isUnitValue_34 N m0 s0) m0 34 [(0, .ref (eAd E 111))] [.int s0] := by
  unfold f_X9_isUnitValue_34
  refine v_istore_n (lv' := [(1, .int s0), (0, .ref (eAd E 111))]) dX9_isUnitValue_34 rfl (Nat.le_of_ble_eq_true rfl) rfl ?_
  refine v_aload_n dX9_isUnitValue_35 rfl 1 rfl ?_
  refine v_dup dX9_isUnitValue_36 rfl ?_
  refine gf_X9_at kc111 q838 dX9_isUnitValue_37 ?_
  refine v_aload_n dX9_isUnitValue_40 rfl 1 rfl ?_
  refine v_callVi (q := 111) (ci := 9) (C := RX9) (T := TX9) (NN := 24) (As := []) (rest := [.int (m0 111 16), .ref (eAd E 111)]) (c_X9_here l E m0) kv_X9_here kc111 (by decide) rfl q984 ⟨rfl, rfl⟩ ⟨Nat.le_of_ble_eq_true rfl, Nat.le_of_ble_eq_true rfl⟩ ⟨Nat.zero_le _, Nat.zero_le _⟩ rfl rfl (Nat.le_of_ble_eq_true rfl) dX9_isUnitValue_41 (fun m1 r1 => ?_)
  refine v_bipush (v := 45) dX9_isUnitValue_44 rfl ?_
  refine v_icmp_eq (tgt := 58) dX9_isUnitValue_46 (by decide) ?_ ?_
  · refine v_sub [1, 0] rfl ?_
    exact w_X9_isUnitValue_58 l E N m1 s0 (m0 111 16)
  · refine v_aload_n dX9_isUnitValue_49 rfl 1 rfl ?_
    refine v_callVi (q := 111) (ci := 9) (C := RX9) (T := TX9) (NN := 24) (As := []) (rest := [.int (m0 111 16), .ref (eAd E 111)]) (c_X9_here l E m1) kv_X9_here kc111 (by decide) rfl q984 ⟨rfl, rfl⟩ ⟨Nat.le_of_ble_eq_true rfl, Nat.le_of_ble_eq_true rfl⟩ ⟨Nat.zero_le _, Nat.zero_le _⟩ rfl rfl (Nat.le_of_ble_eq_true rfl) dX9_isUnitValue_50 (fun m2 r2 => ?_)
    refine v_bipush (v := 43) dX9_isUnitValue_53 rfl ?_
    refine v_icmp_ne (tgt := 62) dX9_isUnitValue_55 (by decide) ?_ ?_
    · refine v_iconst (v := 0) dX9_isUnitValue_62 rfl ?_
      refine v_sub [1, 0] rfl ?_
      exact w_X9_isUnitValue_63 l E N m2 s0 (m0 111 16) 0
    · refine v_sub [1, 0] rfl ?_
      exact w_X9_isUnitValue_58 l E N m2 s0 (m0 111 16)
def f_X9_isUnitValue (N : Nat) (m0 : Mem) : Option (Mem × Int32) := lm (up m0 111 20 1) (fun m1 => bm (f_X9_here m1) (fun m2 r2 => bm (f_X9_isLetter m2 r2) (fun m3 r3 => if r3 = 0 then (bm (f_X9_here m3) (fun m4 r4 => if r4 = 45 then (f_X9_isUnitValue_34 N m4 (-1)) else (f_X9_isUnitValue_34 N m4 1))) else (bm (f_X9_isWordValue N m3) (fun m5 r5 => gd (isB r5) (some (m5, r5)))))))
theorem c_X9_isUnitValue (l : Launch) (E : EnvT) (N : Nat) (m0 : Mem) : CT l E yX9_isUnitValue cX9_isUnitValue 3 (some .boolean) (rm_X9_isUnitValue) rvI (f_X9_isUnitValue N m0) [.ref (eAd E 111)] m0 := by
  refine CT.ofV (own := RX9) (by decide) rfl (Nat.le_of_ble_eq_true rfl) ?_
  show V l E RX9 cX9_isUnitValue 3 (some .boolean) (rm_X9_isUnitValue) 0 0 (Zm E) rvI _ m0 0 [(0, .ref (eAd E 111))] []
  unfold f_X9_isUnitValue
  refine v_aload_n dX9_isUnitValue_0 rfl 0 rfl ?_
  refine v_iconst (v := 1) dX9_isUnitValue_1 rfl ?_
  refine pf_X9_hasValue kc111 q842 rfl dX9_isUnitValue_2 (fun m1 => ?_)
  refine v_aload_n dX9_isUnitValue_5 rfl 0 rfl ?_
  refine v_callVi (q := 111) (ci := 9) (C := RX9) (T := TX9) (NN := 24) (As := []) (rest := []) (c_X9_here l E m1) kv_X9_here kc111 (by decide) rfl q984 ⟨rfl, rfl⟩ ⟨Nat.le_of_ble_eq_true rfl, Nat.le_of_ble_eq_true rfl⟩ ⟨Nat.zero_le _, Nat.zero_le _⟩ rfl rfl (Nat.le_of_ble_eq_true rfl) dX9_isUnitValue_6 (fun m2 r2 => ?_)
  refine v_callSi (As := [.int r2]) (rest := []) (c_X9_isLetter l E m2 r2) ks_X9_isLetter q996 ⟨rfl, rfl⟩ ⟨Nat.le_of_ble_eq_true rfl, Nat.le_of_ble_eq_true rfl⟩ ⟨Nat.zero_le _, Nat.zero_le _⟩ rfl rfl (Nat.le_of_ble_eq_true rfl) dX9_isUnitValue_9 (fun m3 r3 => ?_)
  refine v_if_eq (tgt := 20) dX9_isUnitValue_12 (by decide) ?_ ?_
  · refine v_aload_n dX9_isUnitValue_20 rfl 0 rfl ?_
    refine v_callVi (q := 111) (ci := 9) (C := RX9) (T := TX9) (NN := 24) (As := []) (rest := []) (c_X9_here l E m3) kv_X9_here kc111 (by decide) rfl q984 ⟨rfl, rfl⟩ ⟨Nat.le_of_ble_eq_true rfl, Nat.le_of_ble_eq_true rfl⟩ ⟨Nat.zero_le _, Nat.zero_le _⟩ rfl rfl (Nat.le_of_ble_eq_true rfl) dX9_isUnitValue_21 (fun m4 r4 => ?_)
    refine v_bipush (v := 45) dX9_isUnitValue_24 rfl ?_
    refine v_icmp_ne (tgt := 33) dX9_isUnitValue_26 (by decide) ?_ ?_
    · refine v_iconst (v := 1) dX9_isUnitValue_33 rfl ?_
      exact w_X9_isUnitValue_34 l E N m4 1
    · refine v_iconst (v := (-1)) dX9_isUnitValue_29 rfl ?_
      refine v_goto (tgt := 34) dX9_isUnitValue_30 (by decide) ?_
      exact w_X9_isUnitValue_34 l E N m4 (-1)
  · refine v_aload_n dX9_isUnitValue_15 rfl 0 rfl ?_
    refine v_callVi (q := 111) (ci := 9) (C := RX9) (T := TX9) (NN := 24) (As := []) (rest := []) (c_X9_isWordValue l E N m3) kv_X9_isWordValue kc111 (by decide) rfl q1019 ⟨rfl, rfl⟩ ⟨Nat.le_of_ble_eq_true rfl, Nat.le_of_ble_eq_true rfl⟩ ⟨Nat.zero_le _, Nat.zero_le _⟩ rfl rfl (Nat.le_of_ble_eq_true rfl) dX9_isUnitValue_16 (fun m5 r5 => ?_)
    refine v_gd (fun g19 => ?_)
    exact v_zret g19 dX9_isUnitValue_19

def rm_X9_isEnd : Room := { frames := 1, cells := 0, slots := 0, locals := 20 }
def f_X9_isEnd_17 (m0 : Mem) : Option (Mem × Int32) := some (m0, 1)
theorem w_X9_isEnd_17 (l : Launch) (E : EnvT) (m0 : Mem) : V l E RX9 cX9_isEnd 1 (some .boolean) (rm_X9_isEnd) 0 0 (Zm E) rvI (f_X9_isEnd_17 m0) m0 17 [] [] := by
  unfold f_X9_isEnd_17
  refine v_iconst (v := 1) dX9_isEnd_17 rfl ?_
  refine v_goto (tgt := 22) dX9_isEnd_18 (by decide) ?_
  exact v_zret rfl dX9_isEnd_22
def f_X9_isEnd (m0 : Mem) : Option (Mem × Int32) := bm (f_X9_here m0) (fun m1 r1 => if r1 = (-1) then (f_X9_isEnd_17 m1) else (bm (f_X9_here m1) (fun m2 r2 => if r2 = 59 then (f_X9_isEnd_17 m2) else (some (m2, 0)))))
theorem c_X9_isEnd (l : Launch) (E : EnvT) (m0 : Mem) : CT l E yX9_isEnd cX9_isEnd 1 (some .boolean) (rm_X9_isEnd) rvI (f_X9_isEnd m0) [.ref (eAd E 111)] m0 := by
  refine CT.ofV (own := RX9) (by decide) rfl (Nat.le_of_ble_eq_true rfl) ?_
  show V l E RX9 cX9_isEnd 1 (some .boolean) (rm_X9_isEnd) 0 0 (Zm E) rvI _ m0 0 [(0, .ref (eAd E 111))] []
  unfold f_X9_isEnd
  refine v_aload_n dX9_isEnd_0 rfl 0 rfl ?_
  refine v_callVi (q := 111) (ci := 9) (C := RX9) (T := TX9) (NN := 24) (As := []) (rest := []) (c_X9_here l E m0) kv_X9_here kc111 (by decide) rfl q984 ⟨rfl, rfl⟩ ⟨Nat.le_of_ble_eq_true rfl, Nat.le_of_ble_eq_true rfl⟩ ⟨Nat.zero_le _, Nat.zero_le _⟩ rfl rfl (Nat.le_of_ble_eq_true rfl) dX9_isEnd_1 (fun m1 r1 => ?_)
  refine v_iconst (v := (-1)) dX9_isEnd_4 rfl ?_
  refine v_icmp_eq (tgt := 17) dX9_isEnd_5 (by decide) ?_ ?_
  · refine v_sub [] rfl ?_
    exact w_X9_isEnd_17 l E m1
  · refine v_aload_n dX9_isEnd_8 rfl 0 rfl ?_
    refine v_callVi (q := 111) (ci := 9) (C := RX9) (T := TX9) (NN := 24) (As := []) (rest := []) (c_X9_here l E m1) kv_X9_here kc111 (by decide) rfl q984 ⟨rfl, rfl⟩ ⟨Nat.le_of_ble_eq_true rfl, Nat.le_of_ble_eq_true rfl⟩ ⟨Nat.zero_le _, Nat.zero_le _⟩ rfl rfl (Nat.le_of_ble_eq_true rfl) dX9_isEnd_9 (fun m2 r2 => ?_)
    refine v_bipush (v := 59) dX9_isEnd_12 rfl ?_
    refine v_icmp_ne (tgt := 21) dX9_isEnd_14 (by decide) ?_ ?_
    · refine v_iconst (v := 0) dX9_isEnd_21 rfl ?_
      exact v_zret rfl dX9_isEnd_22
    · refine v_sub [] rfl ?_
      exact w_X9_isEnd_17 l E m2

def rm_X9_isUnit : Room := { frames := 6, cells := 0, slots := 0, locals := 125 }
def f_X9_isUnit_53 (N : Nat) (m0 : Mem) (s1 : Int32) (s2 : Int32) : Option (Mem × Int32) := lm (up m0 111 16 (s1 + s2)) (fun m1 => bm (f_X9_blanks N m1) (fun m2 _ => bm (f_X9_isEnd m2) (fun m3 r3 => if r3 = 0 then (if (m3 111 16) = (m1 111 16) then (some (m3, 0)) else (bm (f_X9_isUnitValue N m3) (fun m4 r4 => if r4 = 0 then (some (m4, 0)) else (bm (f_X9_blanks N m4) (fun m5 _ => bm (f_X9_isEnd m5) (fun m6 r6 => gd (isB r6) (some (m6, r6)))))))) else (some (m3, 1)))))
theorem w_X9_isUnit_53 (l : Launch) (E : EnvT) (N : Nat) (m0 : Mem) (s1 : Int32) (s2 : Int32) : V l E RX9 cX9_isUnit 2 (some .boolean) (rm_X9_isUnit) 0 0 (Zm E) rvI (f_X9_isUnit_53 N m0 s1 s2) m0 53 [(0, .ref (eAd E 111))] [.int s2, .int s1, .ref (eAd E 111)] := by
  unfold f_X9_isUnit_53
  refine v_iadd dX9_isUnit_53 ?_
  refine pf_X9_at kc111 q838 dX9_isUnit_54 (fun m1 => ?_)
  refine v_aload_n dX9_isUnit_57 rfl 0 rfl ?_
  refine gf_X9_at kc111 q838 dX9_isUnit_58 ?_
  refine v_istore_n (lv' := [(1, .int (m1 111 16)), (0, .ref (eAd E 111))]) dX9_isUnit_61 rfl (Nat.le_of_ble_eq_true rfl) rfl ?_
  refine v_aload_n dX9_isUnit_62 rfl 1 rfl ?_
  refine v_callVv (q := 111) (ci := 9) (C := RX9) (T := TX9) (NN := 24) (As := []) (rest := []) (c_X9_blanks l E N m1) kv_X9_blanks kc111 (by decide) rfl q980 ⟨rfl, rfl⟩ ⟨Nat.le_of_ble_eq_true rfl, Nat.le_of_ble_eq_true rfl⟩ ⟨Nat.zero_le _, Nat.zero_le _⟩ rfl rfl (Nat.le_of_ble_eq_true rfl) dX9_isUnit_63 (fun m2 _ => ?_)
  refine v_aload_n dX9_isUnit_66 rfl 1 rfl ?_
  refine v_callVi (q := 111) (ci := 9) (C := RX9) (T := TX9) (NN := 24) (As := []) (rest := []) (c_X9_isEnd l E m2) kv_X9_isEnd kc111 (by decide) rfl q1011 ⟨rfl, rfl⟩ ⟨Nat.le_of_ble_eq_true rfl, Nat.le_of_ble_eq_true rfl⟩ ⟨Nat.zero_le _, Nat.zero_le _⟩ rfl rfl (Nat.le_of_ble_eq_true rfl) dX9_isUnit_67 (fun m3 r3 => ?_)
  refine v_if_eq (tgt := 75) dX9_isUnit_70 (by decide) ?_ ?_
  · refine v_aload_n dX9_isUnit_75 rfl 1 rfl ?_
    refine gf_X9_at kc111 q838 dX9_isUnit_76 ?_
    refine v_iload_n dX9_isUnit_79 rfl 0 rfl ?_
    refine v_icmp_eq (tgt := 90) dX9_isUnit_80 (by decide) ?_ ?_
    · refine v_iconst (v := 0) dX9_isUnit_90 rfl ?_
      exact v_zret rfl dX9_isUnit_91
    · refine v_aload_n dX9_isUnit_83 rfl 1 rfl ?_
      refine v_callVi (q := 111) (ci := 9) (C := RX9) (T := TX9) (NN := 24) (As := []) (rest := []) (c_X9_isUnitValue l E N m3) kv_X9_isUnitValue kc111 (by decide) rfl q1015 ⟨rfl, rfl⟩ ⟨Nat.le_of_ble_eq_true rfl, Nat.le_of_ble_eq_true rfl⟩ ⟨Nat.zero_le _, Nat.zero_le _⟩ rfl rfl (Nat.le_of_ble_eq_true rfl) dX9_isUnit_84 (fun m4 r4 => ?_)
      refine v_if_ne (tgt := 92) dX9_isUnit_87 (by decide) ?_ ?_
      · refine v_aload_n dX9_isUnit_92 rfl 1 rfl ?_
        refine v_callVv (q := 111) (ci := 9) (C := RX9) (T := TX9) (NN := 24) (As := []) (rest := []) (c_X9_blanks l E N m4) kv_X9_blanks kc111 (by decide) rfl q980 ⟨rfl, rfl⟩ ⟨Nat.le_of_ble_eq_true rfl, Nat.le_of_ble_eq_true rfl⟩ ⟨Nat.zero_le _, Nat.zero_le _⟩ rfl rfl (Nat.le_of_ble_eq_true rfl) dX9_isUnit_93 (fun m5 _ => ?_)
        refine v_aload_n dX9_isUnit_96 rfl 1 rfl ?_
        refine v_callVi (q := 111) (ci := 9) (C := RX9) (T := TX9) (NN := 24) (As := []) (rest := []) (c_X9_isEnd l E m5) kv_X9_isEnd kc111 (by decide) rfl q1011 ⟨rfl, rfl⟩ ⟨Nat.le_of_ble_eq_true rfl, Nat.le_of_ble_eq_true rfl⟩ ⟨Nat.zero_le _, Nat.zero_le _⟩ rfl rfl (Nat.le_of_ble_eq_true rfl) dX9_isUnit_97 (fun m6 r6 => ?_)
        refine v_gd (fun g100 => ?_)
        exact v_zret g100 dX9_isUnit_100
      · refine v_iconst (v := 0) dX9_isUnit_90 rfl ?_
        exact v_zret rfl dX9_isUnit_91
  · refine v_iconst (v := 1) dX9_isUnit_73 rfl ?_
    exact v_zret rfl dX9_isUnit_74
def f_X9_isUnit_33 (N : Nat) (m0 : Mem) (s1 : Int32) : Option (Mem × Int32) := gd (isB s1) (lm (up m0 111 19 s1) (fun m1 => if (m1 111 19) = 0 then (f_X9_isUnit_53 N m1 (m1 111 16) 0) else (f_X9_isUnit_53 N m1 (m1 111 16) 1)))
theorem w_X9_isUnit_33 (l : Launch) (E : EnvT) (N : Nat) (m0 : Mem) (s1 : Int32) : V l E RX9 cX9_isUnit 2 (some .boolean) (rm_X9_isUnit) 0 0 (Zm E) rvI (f_X9_isUnit_33 N m0 s1) m0 33 [(0, .ref (eAd E 111))] [.int s1, .ref (eAd E 111)] := by
  unfold f_X9_isUnit_33
  refine v_gd (fun g33 => ?_)
  refine pf_X9_isQuestion kc111 q841 g33 dX9_isUnit_33 (fun m1 => ?_)
  refine v_aload_n dX9_isUnit_36 rfl 0 rfl ?_
  refine v_dup dX9_isUnit_37 rfl ?_
  refine gf_X9_at kc111 q838 dX9_isUnit_38 ?_
  refine v_aload_n dX9_isUnit_41 rfl 0 rfl ?_
  refine gf_X9_isQuestion kc111 q841 dX9_isUnit_42 ?_
  refine v_if_eq (tgt := 52) dX9_isUnit_45 (by decide) ?_ ?_
  · refine v_iconst (v := 0) dX9_isUnit_52 rfl ?_
    exact w_X9_isUnit_53 l E N m1 (m1 111 16) 0
  · refine v_iconst (v := 1) dX9_isUnit_48 rfl ?_
    refine v_goto (tgt := 53) dX9_isUnit_49 (by decide) ?_
    exact w_X9_isUnit_53 l E N m1 (m1 111 16) 1
def f_X9_isUnit (N : Nat) (m0 : Mem) : Option (Mem × Int32) := bm (f_X9_blanks N m0) (fun m1 _ => lm (up m1 111 20 0) (fun m2 => bm (f_X9_isHeader N m2) (fun m3 r3 => if r3 = 0 then (some (m3, 0)) else (bm (f_X9_here m3) (fun m4 r4 => if r4 = 63 then (f_X9_isUnit_33 N m4 1) else (f_X9_isUnit_33 N m4 0))))))
theorem c_X9_isUnit (l : Launch) (E : EnvT) (N : Nat) (m0 : Mem) : CT l E yX9_isUnit cX9_isUnit 2 (some .boolean) (rm_X9_isUnit) rvI (f_X9_isUnit N m0) [.ref (eAd E 111)] m0 := by
  refine CT.ofV (own := RX9) (by decide) rfl (Nat.le_of_ble_eq_true rfl) ?_
  show V l E RX9 cX9_isUnit 2 (some .boolean) (rm_X9_isUnit) 0 0 (Zm E) rvI _ m0 0 [(0, .ref (eAd E 111))] []
  unfold f_X9_isUnit
  refine v_aload_n dX9_isUnit_0 rfl 0 rfl ?_
  refine v_callVv (q := 111) (ci := 9) (C := RX9) (T := TX9) (NN := 24) (As := []) (rest := []) (c_X9_blanks l E N m0) kv_X9_blanks kc111 (by decide) rfl q980 ⟨rfl, rfl⟩ ⟨Nat.le_of_ble_eq_true rfl, Nat.le_of_ble_eq_true rfl⟩ ⟨Nat.zero_le _, Nat.zero_le _⟩ rfl rfl (Nat.le_of_ble_eq_true rfl) dX9_isUnit_1 (fun m1 _ => ?_)
  refine v_aload_n dX9_isUnit_4 rfl 0 rfl ?_
  refine v_iconst (v := 0) dX9_isUnit_5 rfl ?_
  refine pf_X9_hasValue kc111 q842 rfl dX9_isUnit_6 (fun m2 => ?_)
  refine v_aload_n dX9_isUnit_9 rfl 0 rfl ?_
  refine v_callVi (q := 111) (ci := 9) (C := RX9) (T := TX9) (NN := 24) (As := []) (rest := []) (c_X9_isHeader l E N m2) kv_X9_isHeader kc111 (by decide) rfl q988 ⟨rfl, rfl⟩ ⟨Nat.le_of_ble_eq_true rfl, Nat.le_of_ble_eq_true rfl⟩ ⟨Nat.zero_le _, Nat.zero_le _⟩ rfl rfl (Nat.le_of_ble_eq_true rfl) dX9_isUnit_10 (fun m3 r3 => ?_)
  refine v_if_ne (tgt := 18) dX9_isUnit_13 (by decide) ?_ ?_
  · refine v_aload_n dX9_isUnit_18 rfl 0 rfl ?_
    refine v_aload_n dX9_isUnit_19 rfl 0 rfl ?_
    refine v_callVi (q := 111) (ci := 9) (C := RX9) (T := TX9) (NN := 24) (As := []) (rest := [.ref (eAd E 111)]) (c_X9_here l E m3) kv_X9_here kc111 (by decide) rfl q984 ⟨rfl, rfl⟩ ⟨Nat.le_of_ble_eq_true rfl, Nat.le_of_ble_eq_true rfl⟩ ⟨Nat.zero_le _, Nat.zero_le _⟩ rfl rfl (Nat.le_of_ble_eq_true rfl) dX9_isUnit_20 (fun m4 r4 => ?_)
    refine v_bipush (v := 63) dX9_isUnit_23 rfl ?_
    refine v_icmp_ne (tgt := 32) dX9_isUnit_25 (by decide) ?_ ?_
    · refine v_iconst (v := 0) dX9_isUnit_32 rfl ?_
      exact w_X9_isUnit_33 l E N m4 0
    · refine v_iconst (v := 1) dX9_isUnit_28 rfl ?_
      refine v_goto (tgt := 33) dX9_isUnit_29 (by decide) ?_
      exact w_X9_isUnit_33 l E N m4 1
  · refine v_iconst (v := 0) dX9_isUnit_16 rfl ?_
    exact v_zret rfl dX9_isUnit_17

def rm_X9_form : Room := { frames := 0, cells := 0, slots := 0, locals := 0 }
def f_X9_form_20 (m0 : Mem) : Option (Mem × Int32) := if (m0 111 19) = 0 then (some (m0, 0)) else (some (m0, (-10001)))
theorem w_X9_form_20 (l : Launch) (E : EnvT) (m0 : Mem) : V l E RX9 cX9_form 1 (some .int) (rm_X9_form) 0 0 (Zm E) rvI (f_X9_form_20 m0) m0 20 [(0, .ref (eAd E 111))] [] := by
  unfold f_X9_form_20
  refine v_aload_n dX9_form_20 rfl 0 rfl ?_
  refine gf_X9_isQuestion kc111 q841 dX9_form_21 ?_
  refine v_if_eq (tgt := 33) dX9_form_24 (by decide) ?_ ?_
  · refine v_iconst (v := 0) dX9_form_33 rfl ?_
    exact v_iret dX9_form_34
  · refine v_sipush (v := (-10001)) dX9_form_27 rfl ?_
    refine v_goto (tgt := 34) dX9_form_30 (by decide) ?_
    exact v_iret dX9_form_34
def f_X9_form_55 (m0 : Mem) : Option (Mem × Int32) := if (m0 111 19) = 0 then (some (m0, (-10001))) else (some (m0, 0))
theorem w_X9_form_55 (l : Launch) (E : EnvT) (m0 : Mem) : V l E RX9 cX9_form 1 (some .int) (rm_X9_form) 0 0 (Zm E) rvI (f_X9_form_55 m0) m0 55 [(0, .ref (eAd E 111))] [] := by
  unfold f_X9_form_55
  refine v_aload_n dX9_form_55 rfl 0 rfl ?_
  refine gf_X9_isQuestion kc111 q841 dX9_form_56 ?_
  refine v_if_eq (tgt := 66) dX9_form_59 (by decide) ?_ ?_
  · refine v_sipush (v := (-10001)) dX9_form_66 rfl ?_
    exact v_iret dX9_form_69
  · refine v_iconst (v := 0) dX9_form_62 rfl ?_
    refine v_goto (tgt := 69) dX9_form_63 (by decide) ?_
    exact v_iret dX9_form_69
def f_X9_form_90 (m0 : Mem) : Option (Mem × Int32) := if (m0 111 19) = 0 then (some (m0, 1)) else (some (m0, 0))
theorem w_X9_form_90 (l : Launch) (E : EnvT) (m0 : Mem) : V l E RX9 cX9_form 1 (some .int) (rm_X9_form) 0 0 (Zm E) rvI (f_X9_form_90 m0) m0 90 [(0, .ref (eAd E 111))] [] := by
  unfold f_X9_form_90
  refine v_aload_n dX9_form_90 rfl 0 rfl ?_
  refine gf_X9_isQuestion kc111 q841 dX9_form_91 ?_
  refine v_if_eq (tgt := 101) dX9_form_94 (by decide) ?_ ?_
  · refine v_iconst (v := 1) dX9_form_101 rfl ?_
    exact v_iret dX9_form_102
  · refine v_iconst (v := 0) dX9_form_97 rfl ?_
    refine v_goto (tgt := 102) dX9_form_98 (by decide) ?_
    exact v_iret dX9_form_102
def f_X9_form (m0 : Mem) : Option (Mem × Int32) := if (m0 111 18) = 3475 then (f_X9_form_20 m0) else (if (m0 111 18) = 19060 then (f_X9_form_20 m0) else (if (m0 111 18) = 5746 then (f_X9_form_55 m0) else (if (m0 111 18) = 20098 then (f_X9_form_55 m0) else (if (m0 111 18) = 5733 then (f_X9_form_90 m0) else (if (m0 111 18) = 20037 then (f_X9_form_90 m0) else (if (m0 111 18) = 15875 then (some (m0, 0)) else (some (m0, (-10001)))))))))
theorem c_X9_form (l : Launch) (E : EnvT) (m0 : Mem) : CT l E yX9_form cX9_form 1 (some .int) (rm_X9_form) rvI (f_X9_form m0) [.ref (eAd E 111)] m0 := by
  refine CT.ofV (own := RX9) (by decide) rfl (Nat.le_of_ble_eq_true rfl) ?_
  show V l E RX9 cX9_form 1 (some .int) (rm_X9_form) 0 0 (Zm E) rvI _ m0 0 [(0, .ref (eAd E 111))] []
  unfold f_X9_form
  refine v_aload_n dX9_form_0 rfl 0 rfl ?_
  refine gf_X9_common kc111 q840 dX9_form_1 ?_
  refine v_sipush (v := 3475) dX9_form_4 rfl ?_
  refine v_icmp_eq (tgt := 20) dX9_form_7 (by decide) ?_ ?_
  · exact w_X9_form_20 l E m0
  · refine v_aload_n dX9_form_10 rfl 0 rfl ?_
    refine gf_X9_common kc111 q840 dX9_form_11 ?_
    refine v_sipush (v := 19060) dX9_form_14 rfl ?_
    refine v_icmp_ne (tgt := 35) dX9_form_17 (by decide) ?_ ?_
    · refine v_aload_n dX9_form_35 rfl 0 rfl ?_
      refine gf_X9_common kc111 q840 dX9_form_36 ?_
      refine v_sipush (v := 5746) dX9_form_39 rfl ?_
      refine v_icmp_eq (tgt := 55) dX9_form_42 (by decide) ?_ ?_
      · exact w_X9_form_55 l E m0
      · refine v_aload_n dX9_form_45 rfl 0 rfl ?_
        refine gf_X9_common kc111 q840 dX9_form_46 ?_
        refine v_sipush (v := 20098) dX9_form_49 rfl ?_
        refine v_icmp_ne (tgt := 70) dX9_form_52 (by decide) ?_ ?_
        · refine v_aload_n dX9_form_70 rfl 0 rfl ?_
          refine gf_X9_common kc111 q840 dX9_form_71 ?_
          refine v_sipush (v := 5733) dX9_form_74 rfl ?_
          refine v_icmp_eq (tgt := 90) dX9_form_77 (by decide) ?_ ?_
          · exact w_X9_form_90 l E m0
          · refine v_aload_n dX9_form_80 rfl 0 rfl ?_
            refine gf_X9_common kc111 q840 dX9_form_81 ?_
            refine v_sipush (v := 20037) dX9_form_84 rfl ?_
            refine v_icmp_ne (tgt := 103) dX9_form_87 (by decide) ?_ ?_
            · refine v_aload_n dX9_form_103 rfl 0 rfl ?_
              refine gf_X9_common kc111 q840 dX9_form_104 ?_
              refine v_sipush (v := 15875) dX9_form_107 rfl ?_
              refine v_icmp_ne (tgt := 117) dX9_form_110 (by decide) ?_ ?_
              · refine v_sipush (v := (-10001)) dX9_form_117 rfl ?_
                exact v_iret dX9_form_120
              · refine v_iconst (v := 0) dX9_form_113 rfl ?_
                refine v_goto (tgt := 120) dX9_form_114 (by decide) ?_
                exact v_iret dX9_form_120
            · exact w_X9_form_90 l E m0
        · exact w_X9_form_55 l E m0
    · exact w_X9_form_20 l E m0

def rm_X9_doOver : Room := { frames := 2, cells := 0, slots := 0, locals := 43 }
def f_X9_doOver_23 (m0 : Mem) (s1 : Int32) : Option (Mem × Unit) := bm (f_X9_addAnswer m0 s1) (fun m1 _ => some (m1, ()))
theorem w_X9_doOver_23 (l : Launch) (E : EnvT) (m0 : Mem) (s1 : Int32) : V l E RX9 cX9_doOver 1 none (rm_X9_doOver) 0 0 (Zm E) rvV (f_X9_doOver_23 m0 s1) m0 23 [] [.int s1, .ref (eAd E 111)] := by
  unfold f_X9_doOver_23
  refine v_callVv (q := 111) (ci := 9) (C := RX9) (T := TX9) (NN := 24) (As := [.int s1]) (rest := []) (c_X9_addAnswer l E m0 s1) kv_X9_addAnswer kc111 (by decide) rfl q1051 ⟨rfl, rfl⟩ ⟨Nat.le_of_ble_eq_true rfl, Nat.le_of_ble_eq_true rfl⟩ ⟨Nat.zero_le _, Nat.zero_le _⟩ rfl rfl (Nat.le_of_ble_eq_true rfl) dX9_doOver_23 (fun m1 _ => ?_)
  refine v_goto (tgt := 60) dX9_doOver_26 (by decide) ?_
  exact v_vret dX9_doOver_60
def f_X9_doOver (m0 : Mem) : Option (Mem × Unit) := if (m0 111 19) = 0 then (gd (inR 9 347) (if (m0 112 (ix 9)) = 0 then (gd (inR 1 347) (gd (inR 1 347) (lm (up m0 112 (ix 1) ((m0 112 (ix 1)) ||| 1)) (fun m2 => some (m2, ()))))) else (gd (inR 10 347) (lm (up m0 112 (ix 10) 1) (fun m1 => some (m1, ())))))) else (gd (inR 9 347) (if (m0 112 (ix 9)) = 0 then (f_X9_doOver_23 m0 1) else (f_X9_doOver_23 m0 0)))
theorem c_X9_doOver (l : Launch) (E : EnvT) (m0 : Mem) : CT l E yX9_doOver cX9_doOver 1 none (rm_X9_doOver) rvV (f_X9_doOver m0) [.ref (eAd E 111)] m0 := by
  refine CT.ofV (own := RX9) (by decide) rfl (Nat.le_of_ble_eq_true rfl) ?_
  show V l E RX9 cX9_doOver 1 none (rm_X9_doOver) 0 0 (Zm E) rvV _ m0 0 [(0, .ref (eAd E 111))] []
  unfold f_X9_doOver
  refine v_aload_n dX9_doOver_0 rfl 0 rfl ?_
  refine gf_X9_isQuestion kc111 q841 dX9_doOver_1 ?_
  refine v_if_eq (tgt := 29) dX9_doOver_4 (by decide) ?_ ?_
  · refine v_aload_n dX9_doOver_29 rfl 0 rfl ?_
    refine gf_X9_now kc111 q822 dX9_doOver_30 ?_
    refine v_bipush (v := 9) dX9_doOver_33 rfl ?_
    refine v_gd (fun g35 => ?_)
    refine v_iald kc112 rfl g35 dX9_doOver_35 ?_
    refine v_if_ne (tgt := 52) dX9_doOver_36 (by decide) ?_ ?_
    · refine v_aload_n dX9_doOver_52 rfl 0 rfl ?_
      refine gf_X9_now kc111 q822 dX9_doOver_53 ?_
      refine v_bipush (v := 10) dX9_doOver_56 rfl ?_
      refine v_iconst (v := 1) dX9_doOver_58 rfl ?_
      refine v_gd (fun g59 => ?_)
      refine v_iast kc112 rfl g59 dX9_doOver_59 (fun m1 => ?_)
      exact v_vret dX9_doOver_60
    · refine v_aload_n dX9_doOver_39 rfl 0 rfl ?_
      refine gf_X9_now kc111 q822 dX9_doOver_40 ?_
      refine v_iconst (v := 1) dX9_doOver_43 rfl ?_
      refine v_dup2 dX9_doOver_44 rfl rfl ?_
      refine v_gd (fun g45 => ?_)
      refine v_iald kc112 rfl g45 dX9_doOver_45 ?_
      refine v_iconst (v := 1) dX9_doOver_46 rfl ?_
      refine v_ior dX9_doOver_47 ?_
      refine v_gd (fun g48 => ?_)
      refine v_iast kc112 rfl g48 dX9_doOver_48 (fun m2 => ?_)
      refine v_goto (tgt := 60) dX9_doOver_49 (by decide) ?_
      exact v_vret dX9_doOver_60
  · refine v_aload_n dX9_doOver_7 rfl 0 rfl ?_
    refine v_aload_n dX9_doOver_8 rfl 0 rfl ?_
    refine gf_X9_now kc111 q822 dX9_doOver_9 ?_
    refine v_bipush (v := 9) dX9_doOver_12 rfl ?_
    refine v_gd (fun g14 => ?_)
    refine v_iald kc112 rfl g14 dX9_doOver_14 ?_
    refine v_if_ne (tgt := 22) dX9_doOver_15 (by decide) ?_ ?_
    · refine v_iconst (v := 0) dX9_doOver_22 rfl ?_
      refine v_sub [] rfl ?_
      exact w_X9_doOver_23 l E m0 0
    · refine v_iconst (v := 1) dX9_doOver_18 rfl ?_
      refine v_goto (tgt := 23) dX9_doOver_19 (by decide) ?_
      refine v_sub [] rfl ?_
      exact w_X9_doOver_23 l E m0 1

def rm_X9_doMask : Room := { frames := 2, cells := 0, slots := 0, locals := 43 }
def f_X9_doMask (m0 : Mem) (x1 : Int32) : Option (Mem × Int32) := if (m0 111 19) = 0 then (bm (f_X9_in m0 (m0 111 21) 0 255) (fun m1 r1 => if r1 = 0 then (some (m1, (-222))) else (gd (inR x1 347) (lm (up m1 112 (ix x1) (m1 111 21)) (fun m2 => some (m2, 0)))))) else (gd (inR x1 347) (bm (f_X9_addAnswer m0 (m0 112 (ix x1))) (fun m3 _ => some (m3, 0))))
theorem c_X9_doMask (l : Launch) (E : EnvT) (m0 : Mem) (x1 : Int32) : CT l E yX9_doMask cX9_doMask 2 (some .int) (rm_X9_doMask) rvI (f_X9_doMask m0 x1) [.ref (eAd E 111), .int x1] m0 := by
  refine CT.ofV (own := RX9) (by decide) rfl (Nat.le_of_ble_eq_true rfl) ?_
  show V l E RX9 cX9_doMask 2 (some .int) (rm_X9_doMask) 0 0 (Zm E) rvI _ m0 0 [(0, .ref (eAd E 111)), (1, .int x1)] []
  unfold f_X9_doMask
  refine v_aload_n dX9_doMask_0 rfl 0 rfl ?_
  refine gf_X9_isQuestion kc111 q841 dX9_doMask_1 ?_
  refine v_if_eq (tgt := 19) dX9_doMask_4 (by decide) ?_ ?_
  · refine v_aload_n dX9_doMask_19 rfl 0 rfl ?_
    refine gf_X9_unitValue kc111 q843 dX9_doMask_20 ?_
    refine v_iconst (v := 0) dX9_doMask_23 rfl ?_
    refine v_sipush (v := 255) dX9_doMask_24 rfl ?_
    refine v_callSi (As := [.int (m0 111 21), .int 0, .int 255]) (rest := []) (c_X9_in l E m0 (m0 111 21) 0 255) ks_X9_in q912 ⟨rfl, rfl⟩ ⟨Nat.le_of_ble_eq_true rfl, Nat.le_of_ble_eq_true rfl⟩ ⟨Nat.zero_le _, Nat.zero_le _⟩ rfl rfl (Nat.le_of_ble_eq_true rfl) dX9_doMask_27 (fun m1 r1 => ?_)
    refine v_if_ne (tgt := 37) dX9_doMask_30 (by decide) ?_ ?_
    · refine v_aload_n dX9_doMask_37 rfl 0 rfl ?_
      refine gf_X9_now kc111 q822 dX9_doMask_38 ?_
      refine v_iload_n dX9_doMask_41 rfl 1 rfl ?_
      refine v_aload_n dX9_doMask_42 rfl 0 rfl ?_
      refine gf_X9_unitValue kc111 q843 dX9_doMask_43 ?_
      refine v_gd (fun g46 => ?_)
      refine v_iast kc112 rfl g46 dX9_doMask_46 (fun m2 => ?_)
      refine v_iconst (v := 0) dX9_doMask_47 rfl ?_
      exact v_iret dX9_doMask_48
    · refine v_sipush (v := (-222)) dX9_doMask_33 rfl ?_
      exact v_iret dX9_doMask_36
  · refine v_aload_n dX9_doMask_7 rfl 0 rfl ?_
    refine v_aload_n dX9_doMask_8 rfl 0 rfl ?_
    refine gf_X9_now kc111 q822 dX9_doMask_9 ?_
    refine v_iload_n dX9_doMask_12 rfl 1 rfl ?_
    refine v_gd (fun g13 => ?_)
    refine v_iald kc112 rfl g13 dX9_doMask_13 ?_
    refine v_callVv (q := 111) (ci := 9) (C := RX9) (T := TX9) (NN := 24) (As := [.int (m0 112 (ix x1))]) (rest := []) (c_X9_addAnswer l E m0 (m0 112 (ix x1))) kv_X9_addAnswer kc111 (by decide) rfl q1051 ⟨rfl, rfl⟩ ⟨Nat.le_of_ble_eq_true rfl, Nat.le_of_ble_eq_true rfl⟩ ⟨Nat.zero_le _, Nat.zero_le _⟩ rfl rfl (Nat.le_of_ble_eq_true rfl) dX9_doMask_14 (fun m3 _ => ?_)
    refine v_iconst (v := 0) dX9_doMask_17 rfl ?_
    exact v_iret dX9_doMask_18

def rm_X9_doCommon : Room := { frames := 3, cells := 0, slots := 0, locals := 64 }
def f_X9_doCommon_191 (N : Nat) (m0 : Mem) (s1 : Int32) : Option (Mem × Int32) := bm (f_X9_doMask m0 s1) (fun m1 r1 => some (m1, r1))
theorem w_X9_doCommon_191 (l : Launch) (E : EnvT) (N : Nat) (m0 : Mem) (s1 : Int32) : V l E RX9 cX9_doCommon 2 (some .int) (rm_X9_doCommon) 0 0 (Zm E) rvI (f_X9_doCommon_191 N m0 s1) m0 191 [] [.int s1, .ref (eAd E 111)] := by
  unfold f_X9_doCommon_191
  refine v_callVi (q := 111) (ci := 9) (C := RX9) (T := TX9) (NN := 24) (As := [.int s1]) (rest := []) (c_X9_doMask l E m0 s1) kv_X9_doMask kc111 (by decide) rfl q1067 ⟨rfl, rfl⟩ ⟨Nat.le_of_ble_eq_true rfl, Nat.le_of_ble_eq_true rfl⟩ ⟨Nat.zero_le _, Nat.zero_le _⟩ rfl rfl (Nat.le_of_ble_eq_true rfl) dX9_doCommon_191 (fun m1 r1 => ?_)
  exact v_iret dX9_doCommon_194
def f_X9_doCommon_80 (N : Nat) (rec_55 : Mem → Int32 → Option (Mem × Int32)) (m0 : Mem) (x1 : Int32) : Option (Mem × Int32) := (rec_55 m0 (x1 + 1))
theorem w_X9_doCommon_80 (l : Launch) (E : EnvT) (N : Nat) (rec_55 : Mem → Int32 → Option (Mem × Int32)) (hrec_55 : ∀ (m0 : Mem) (x1 : Int32), V l E RX9 cX9_doCommon 2 (some .int) (rm_X9_doCommon) 0 0 (Zm E) rvI (rec_55 m0 x1) m0 55 [(0, .ref (eAd E 111)), (1, .int x1)] []) (m0 : Mem) (x1 : Int32) : V l E RX9 cX9_doCommon 2 (some .int) (rm_X9_doCommon) 0 0 (Zm E) rvI (f_X9_doCommon_80 N rec_55 m0 x1) m0 80 [(0, .ref (eAd E 111)), (1, .int x1)] [] := by
  unfold f_X9_doCommon_80
  refine v_iinc (v := (x1 + 1)) (lv' := [(1, .int (x1 + 1)), (0, .ref (eAd E 111))]) dX9_doCommon_80 1 rfl rfl (Nat.le_of_ble_eq_true rfl) rfl ?_
  refine v_goto (tgt := 55) dX9_doCommon_83 (by decide) ?_
  refine v_sub [1, 0] rfl ?_
  exact hrec_55 m0 (x1 + 1)
def f_X9_doCommon_55b (N : Nat) (rec_55 : Mem → Int32 → Option (Mem × Int32)) (m0 : Mem) (x1 : Int32) : Option (Mem × Int32) := gd (inR 0 347) (if (m0 112 (ix 0)) ≤ x1 then (gd (inR 9 347) (lm (up m0 112 (ix 9) 0) (fun m1 => gd (inR 10 347) (lm (up m1 112 (ix 10) 0) (fun m2 => some (m2, 0)))))) else (bm (f_X9_ofNode m0 x1 1) (fun m3 r3 => if r3 = 1 then (bm (f_X9_setAll N m3 x1) (fun m4 _ => (f_X9_doCommon_80 N rec_55 m4 x1))) else (f_X9_doCommon_80 N rec_55 m3 x1))))
def f_X9_doCommon_55 (N : Nat) : Nat → Mem → Int32 → Option (Mem × Int32)
  | 0 => fun _ _ => none
  | n + 1 => f_X9_doCommon_55b N (f_X9_doCommon_55 N n)
theorem w_X9_doCommon_55b (l : Launch) (E : EnvT) (N : Nat) (rec_55 : Mem → Int32 → Option (Mem × Int32)) (hrec_55 : ∀ (m0 : Mem) (x1 : Int32), V l E RX9 cX9_doCommon 2 (some .int) (rm_X9_doCommon) 0 0 (Zm E) rvI (rec_55 m0 x1) m0 55 [(0, .ref (eAd E 111)), (1, .int x1)] []) (m0 : Mem) (x1 : Int32) : V l E RX9 cX9_doCommon 2 (some .int) (rm_X9_doCommon) 0 0 (Zm E) rvI (f_X9_doCommon_55b N rec_55 m0 x1) m0 55 [(0, .ref (eAd E 111)), (1, .int x1)] [] := by
  unfold f_X9_doCommon_55b
  refine v_iload_n dX9_doCommon_55 rfl 1 rfl ?_
  refine v_aload_n dX9_doCommon_56 rfl 0 rfl ?_
  refine gf_X9_now kc111 q822 dX9_doCommon_57 ?_
  refine v_iconst (v := 0) dX9_doCommon_60 rfl ?_
  refine v_gd (fun g61 => ?_)
  refine v_iald kc112 rfl g61 dX9_doCommon_61 ?_
  refine v_icmp_ge (tgt := 86) dX9_doCommon_62 (by decide) ?_ ?_
  · refine v_aload_n dX9_doCommon_86 rfl 0 rfl ?_
    refine gf_X9_now kc111 q822 dX9_doCommon_87 ?_
    refine v_bipush (v := 9) dX9_doCommon_90 rfl ?_
    refine v_iconst (v := 0) dX9_doCommon_92 rfl ?_
    refine v_gd (fun g93 => ?_)
    refine v_iast kc112 rfl g93 dX9_doCommon_93 (fun m1 => ?_)
    refine v_aload_n dX9_doCommon_94 rfl 0 rfl ?_
    refine gf_X9_now kc111 q822 dX9_doCommon_95 ?_
    refine v_bipush (v := 10) dX9_doCommon_98 rfl ?_
    refine v_iconst (v := 0) dX9_doCommon_100 rfl ?_
    refine v_gd (fun g101 => ?_)
    refine v_iast kc112 rfl g101 dX9_doCommon_101 (fun m2 => ?_)
    refine v_goto (tgt := 195) dX9_doCommon_102 (by decide) ?_
    refine v_iconst (v := 0) dX9_doCommon_195 rfl ?_
    exact v_iret dX9_doCommon_196
  · refine v_aload_n dX9_doCommon_65 rfl 0 rfl ?_
    refine v_iload_n dX9_doCommon_66 rfl 1 rfl ?_
    refine v_iconst (v := 1) dX9_doCommon_67 rfl ?_
    refine v_callVi (q := 111) (ci := 9) (C := RX9) (T := TX9) (NN := 24) (As := [.int x1, .int 1]) (rest := []) (c_X9_ofNode l E m0 x1 1) kv_X9_ofNode kc111 (by decide) rfl q915 ⟨rfl, rfl⟩ ⟨Nat.le_of_ble_eq_true rfl, Nat.le_of_ble_eq_true rfl⟩ ⟨Nat.zero_le _, Nat.zero_le _⟩ rfl rfl (Nat.le_of_ble_eq_true rfl) dX9_doCommon_68 (fun m3 r3 => ?_)
    refine v_iconst (v := 1) dX9_doCommon_71 rfl ?_
    refine v_icmp_ne (tgt := 80) dX9_doCommon_72 (by decide) ?_ ?_
    · exact w_X9_doCommon_80 l E N rec_55 hrec_55 m3 x1
    · refine v_aload_n dX9_doCommon_75 rfl 0 rfl ?_
      refine v_iload_n dX9_doCommon_76 rfl 1 rfl ?_
      refine v_callVv (q := 111) (ci := 9) (C := RX9) (T := TX9) (NN := 24) (As := [.int x1]) (rest := []) (c_X9_setAll l E N m3 x1) kv_X9_setAll kc111 (by decide) rfl q952 ⟨rfl, rfl⟩ ⟨Nat.le_of_ble_eq_true rfl, Nat.le_of_ble_eq_true rfl⟩ ⟨Nat.zero_le _, Nat.zero_le _⟩ rfl rfl (Nat.le_of_ble_eq_true rfl) dX9_doCommon_77 (fun m4 _ => ?_)
      exact w_X9_doCommon_80 l E N rec_55 hrec_55 m4 x1
theorem w_X9_doCommon_55 (l : Launch) (E : EnvT) (N : Nat) : ∀ (n : Nat) (m0 : Mem) (x1 : Int32), V l E RX9 cX9_doCommon 2 (some .int) (rm_X9_doCommon) 0 0 (Zm E) rvI (f_X9_doCommon_55 N n m0 x1) m0 55 [(0, .ref (eAd E 111)), (1, .int x1)] [] := by
  intro n
  induction n with
  | zero => intros; exact v_none
  | succ n ih => exact w_X9_doCommon_55b l E N _ ih
def f_X9_doCommon (N : Nat) (m0 : Mem) : Option (Mem × Int32) := if (m0 111 18) = 3475 then (gd (inR 1 347) (lm (up m0 112 (ix 1) 0) (fun m6 => gd (inR 5 347) (lm (up m6 112 (ix 5) 0) (fun m7 => gd (inR 12 347) (lm (up m7 112 (ix 12) 0) (fun m8 => gd (inR 10 347) (lm (up m8 112 (ix 10) 0) (fun m9 => some (m9, 0)))))))))) else (if (m0 111 18) = 19060 then (f_X9_doCommon_55 N N m0 1) else (if (m0 111 18) = 5746 then (gd (inR 1 347) (gd (inR 1 347) (lm (up m0 112 (ix 1) 0) (fun m4 => bm (f_X9_addAnswer m4 (m0 112 (ix 1))) (fun m5 _ => some (m5, 0)))))) else (if (m0 111 18) = 20098 then (bm (f_X9_sum m0) (fun m2 r2 => bm (f_X9_addAnswer m2 r2) (fun m3 _ => some (m3, 0)))) else (if (m0 111 18) = 15875 then (bm (f_X9_doOver m0) (fun m1 _ => some (m1, 0))) else (if (m0 111 18) = 5733 then (f_X9_doCommon_191 N m0 2) else (f_X9_doCommon_191 N m0 3))))))
theorem c_X9_doCommon (l : Launch) (E : EnvT) (N : Nat) (m0 : Mem) : CT l E yX9_doCommon cX9_doCommon 2 (some .int) (rm_X9_doCommon) rvI (f_X9_doCommon N m0) [.ref (eAd E 111)] m0 := by
  refine CT.ofV (own := RX9) (by decide) rfl (Nat.le_of_ble_eq_true rfl) ?_
  show V l E RX9 cX9_doCommon 2 (some .int) (rm_X9_doCommon) 0 0 (Zm E) rvI _ m0 0 [(0, .ref (eAd E 111))] []
  unfold f_X9_doCommon
  refine v_aload_n dX9_doCommon_0 rfl 0 rfl ?_
  refine gf_X9_common kc111 q840 dX9_doCommon_1 ?_
  refine v_sipush (v := 3475) dX9_doCommon_4 rfl ?_
  refine v_icmp_ne (tgt := 43) dX9_doCommon_7 (by decide) ?_ ?_
  · refine v_aload_n dX9_doCommon_43 rfl 0 rfl ?_
    refine gf_X9_common kc111 q840 dX9_doCommon_44 ?_
    refine v_sipush (v := 19060) dX9_doCommon_47 rfl ?_
    refine v_icmp_ne (tgt := 105) dX9_doCommon_50 (by decide) ?_ ?_
    · refine v_aload_n dX9_doCommon_105 rfl 0 rfl ?_
      refine gf_X9_common kc111 q840 dX9_doCommon_106 ?_
      refine v_sipush (v := 5746) dX9_doCommon_109 rfl ?_
      refine v_icmp_ne (tgt := 137) dX9_doCommon_112 (by decide) ?_ ?_
      · refine v_aload_n dX9_doCommon_137 rfl 0 rfl ?_
        refine gf_X9_common kc111 q840 dX9_doCommon_138 ?_
        refine v_sipush (v := 20098) dX9_doCommon_141 rfl ?_
        refine v_icmp_ne (tgt := 158) dX9_doCommon_144 (by decide) ?_ ?_
        · refine v_aload_n dX9_doCommon_158 rfl 0 rfl ?_
          refine gf_X9_common kc111 q840 dX9_doCommon_159 ?_
          refine v_sipush (v := 15875) dX9_doCommon_162 rfl ?_
          refine v_icmp_ne (tgt := 175) dX9_doCommon_165 (by decide) ?_ ?_
          · refine v_aload_n dX9_doCommon_175 rfl 0 rfl ?_
            refine v_aload_n dX9_doCommon_176 rfl 0 rfl ?_
            refine gf_X9_common kc111 q840 dX9_doCommon_177 ?_
            refine v_sipush (v := 5733) dX9_doCommon_180 rfl ?_
            refine v_icmp_ne (tgt := 190) dX9_doCommon_183 (by decide) ?_ ?_
            · refine v_iconst (v := 3) dX9_doCommon_190 rfl ?_
              refine v_sub [] rfl ?_
              exact w_X9_doCommon_191 l E N m0 3
            · refine v_iconst (v := 2) dX9_doCommon_186 rfl ?_
              refine v_goto (tgt := 191) dX9_doCommon_187 (by decide) ?_
              refine v_sub [] rfl ?_
              exact w_X9_doCommon_191 l E N m0 2
          · refine v_aload_n dX9_doCommon_168 rfl 0 rfl ?_
            refine v_callVv (q := 111) (ci := 9) (C := RX9) (T := TX9) (NN := 24) (As := []) (rest := []) (c_X9_doOver l E m0) kv_X9_doOver kc111 (by decide) rfl q1063 ⟨rfl, rfl⟩ ⟨Nat.le_of_ble_eq_true rfl, Nat.le_of_ble_eq_true rfl⟩ ⟨Nat.zero_le _, Nat.zero_le _⟩ rfl rfl (Nat.le_of_ble_eq_true rfl) dX9_doCommon_169 (fun m1 _ => ?_)
            refine v_goto (tgt := 195) dX9_doCommon_172 (by decide) ?_
            refine v_iconst (v := 0) dX9_doCommon_195 rfl ?_
            exact v_iret dX9_doCommon_196
        · refine v_aload_n dX9_doCommon_147 rfl 0 rfl ?_
          refine v_aload_n dX9_doCommon_148 rfl 0 rfl ?_
          refine v_callVi (q := 111) (ci := 9) (C := RX9) (T := TX9) (NN := 24) (As := []) (rest := [.ref (eAd E 111)]) (c_X9_sum l E m0) kv_X9_sum kc111 (by decide) rfl q1059 ⟨rfl, rfl⟩ ⟨Nat.le_of_ble_eq_true rfl, Nat.le_of_ble_eq_true rfl⟩ ⟨Nat.zero_le _, Nat.zero_le _⟩ rfl rfl (Nat.le_of_ble_eq_true rfl) dX9_doCommon_149 (fun m2 r2 => ?_)
          refine v_callVv (q := 111) (ci := 9) (C := RX9) (T := TX9) (NN := 24) (As := [.int r2]) (rest := []) (c_X9_addAnswer l E m2 r2) kv_X9_addAnswer kc111 (by decide) rfl q1051 ⟨rfl, rfl⟩ ⟨Nat.le_of_ble_eq_true rfl, Nat.le_of_ble_eq_true rfl⟩ ⟨Nat.zero_le _, Nat.zero_le _⟩ rfl rfl (Nat.le_of_ble_eq_true rfl) dX9_doCommon_152 (fun m3 _ => ?_)
          refine v_goto (tgt := 195) dX9_doCommon_155 (by decide) ?_
          refine v_iconst (v := 0) dX9_doCommon_195 rfl ?_
          exact v_iret dX9_doCommon_196
      · refine v_aload_n dX9_doCommon_115 rfl 0 rfl ?_
        refine gf_X9_now kc111 q822 dX9_doCommon_116 ?_
        refine v_iconst (v := 1) dX9_doCommon_119 rfl ?_
        refine v_gd (fun g120 => ?_)
        refine v_iald kc112 rfl g120 dX9_doCommon_120 ?_
        refine v_istore_n (lv' := [(1, .int (m0 112 (ix 1))), (0, .ref (eAd E 111))]) dX9_doCommon_121 rfl (Nat.le_of_ble_eq_true rfl) rfl ?_
        refine v_aload_n dX9_doCommon_122 rfl 1 rfl ?_
        refine gf_X9_now kc111 q822 dX9_doCommon_123 ?_
        refine v_iconst (v := 1) dX9_doCommon_126 rfl ?_
        refine v_iconst (v := 0) dX9_doCommon_127 rfl ?_
        refine v_gd (fun g128 => ?_)
        refine v_iast kc112 rfl g128 dX9_doCommon_128 (fun m4 => ?_)
        refine v_aload_n dX9_doCommon_129 rfl 1 rfl ?_
        refine v_iload_n dX9_doCommon_130 rfl 0 rfl ?_
        refine v_callVv (q := 111) (ci := 9) (C := RX9) (T := TX9) (NN := 24) (As := [.int (m0 112 (ix 1))]) (rest := []) (c_X9_addAnswer l E m4 (m0 112 (ix 1))) kv_X9_addAnswer kc111 (by decide) rfl q1051 ⟨rfl, rfl⟩ ⟨Nat.le_of_ble_eq_true rfl, Nat.le_of_ble_eq_true rfl⟩ ⟨Nat.zero_le _, Nat.zero_le _⟩ rfl rfl (Nat.le_of_ble_eq_true rfl) dX9_doCommon_131 (fun m5 _ => ?_)
        refine v_goto (tgt := 195) dX9_doCommon_134 (by decide) ?_
        refine v_iconst (v := 0) dX9_doCommon_195 rfl ?_
        exact v_iret dX9_doCommon_196
    · refine v_iconst (v := 1) dX9_doCommon_53 rfl ?_
      refine v_istore_n (lv' := [(1, .int 1), (0, .ref (eAd E 111))]) dX9_doCommon_54 rfl (Nat.le_of_ble_eq_true rfl) rfl ?_
      refine v_sub [1, 0] rfl ?_
      exact w_X9_doCommon_55 l E N N m0 1
  · refine v_aload_n dX9_doCommon_10 rfl 0 rfl ?_
    refine gf_X9_now kc111 q822 dX9_doCommon_11 ?_
    refine v_iconst (v := 1) dX9_doCommon_14 rfl ?_
    refine v_iconst (v := 0) dX9_doCommon_15 rfl ?_
    refine v_gd (fun g16 => ?_)
    refine v_iast kc112 rfl g16 dX9_doCommon_16 (fun m6 => ?_)
    refine v_aload_n dX9_doCommon_17 rfl 0 rfl ?_
    refine gf_X9_now kc111 q822 dX9_doCommon_18 ?_
    refine v_iconst (v := 5) dX9_doCommon_21 rfl ?_
    refine v_iconst (v := 0) dX9_doCommon_22 rfl ?_
    refine v_gd (fun g23 => ?_)
    refine v_iast kc112 rfl g23 dX9_doCommon_23 (fun m7 => ?_)
    refine v_aload_n dX9_doCommon_24 rfl 0 rfl ?_
    refine gf_X9_now kc111 q822 dX9_doCommon_25 ?_
    refine v_bipush (v := 12) dX9_doCommon_28 rfl ?_
    refine v_iconst (v := 0) dX9_doCommon_30 rfl ?_
    refine v_gd (fun g31 => ?_)
    refine v_iast kc112 rfl g31 dX9_doCommon_31 (fun m8 => ?_)
    refine v_aload_n dX9_doCommon_32 rfl 0 rfl ?_
    refine gf_X9_now kc111 q822 dX9_doCommon_33 ?_
    refine v_bipush (v := 10) dX9_doCommon_36 rfl ?_
    refine v_iconst (v := 0) dX9_doCommon_38 rfl ?_
    refine v_gd (fun g39 => ?_)
    refine v_iast kc112 rfl g39 dX9_doCommon_39 (fun m9 => ?_)
    refine v_goto (tgt := 195) dX9_doCommon_40 (by decide) ?_
    refine v_iconst (v := 0) dX9_doCommon_195 rfl ?_
    exact v_iret dX9_doCommon_196

def rm_X9_doNode : Room := { frames := 2, cells := 0, slots := 0, locals := 43 }
def f_X9_doNode_185 (m0 : Mem) (x1 : Int32) : Option (Mem × Int32) := bm (f_X9_ofNode m0 x1 9) (fun m1 r1 => bm (f_X9_put m1 x1 9 (r1 + 1)) (fun m2 _ => some (m2, 0)))
theorem w_X9_doNode_185 (l : Launch) (E : EnvT) (m0 : Mem) (x1 : Int32) : V l E RX9 cX9_doNode 4 (some .int) (rm_X9_doNode) 0 0 (Zm E) rvI (f_X9_doNode_185 m0 x1) m0 185 [(0, .ref (eAd E 111)), (1, .int x1)] [] := by
  unfold f_X9_doNode_185
  refine v_aload_n dX9_doNode_185 rfl 0 rfl ?_
  refine v_iload_n dX9_doNode_186 rfl 1 rfl ?_
  refine v_bipush (v := 9) dX9_doNode_187 rfl ?_
  refine v_aload_n dX9_doNode_189 rfl 0 rfl ?_
  refine v_iload_n dX9_doNode_190 rfl 1 rfl ?_
  refine v_bipush (v := 9) dX9_doNode_191 rfl ?_
  refine v_callVi (q := 111) (ci := 9) (C := RX9) (T := TX9) (NN := 24) (As := [.int x1, .int 9]) (rest := [.int 9, .int x1, .ref (eAd E 111)]) (c_X9_ofNode l E m0 x1 9) kv_X9_ofNode kc111 (by decide) rfl q915 ⟨rfl, rfl⟩ ⟨Nat.le_of_ble_eq_true rfl, Nat.le_of_ble_eq_true rfl⟩ ⟨Nat.zero_le _, Nat.zero_le _⟩ rfl rfl (Nat.le_of_ble_eq_true rfl) dX9_doNode_193 (fun m1 r1 => ?_)
  refine v_iconst (v := 1) dX9_doNode_196 rfl ?_
  refine v_iadd dX9_doNode_197 ?_
  refine v_callVv (q := 111) (ci := 9) (C := RX9) (T := TX9) (NN := 24) (As := [.int x1, .int 9, .int (r1 + 1)]) (rest := []) (c_X9_put l E m1 x1 9 (r1 + 1)) kv_X9_put kc111 (by decide) rfl q933 ⟨rfl, rfl⟩ ⟨Nat.le_of_ble_eq_true rfl, Nat.le_of_ble_eq_true rfl⟩ ⟨Nat.zero_le _, Nat.zero_le _⟩ rfl rfl (Nat.le_of_ble_eq_true rfl) dX9_doNode_198 (fun m2 _ => ?_)
  refine v_iconst (v := 0) dX9_doNode_201 rfl ?_
  exact v_iret dX9_doNode_202
def f_X9_doNode_85 (m0 : Mem) (s1 : Int32) : Option (Mem × Int32) := bm (f_X9_addAnswer m0 s1) (fun m1 _ => some (m1, 0))
theorem w_X9_doNode_85 (l : Launch) (E : EnvT) (m0 : Mem) (s1 : Int32) : V l E RX9 cX9_doNode 4 (some .int) (rm_X9_doNode) 0 0 (Zm E) rvI (f_X9_doNode_85 m0 s1) m0 85 [] [.int s1, .ref (eAd E 111)] := by
  unfold f_X9_doNode_85
  refine v_callVv (q := 111) (ci := 9) (C := RX9) (T := TX9) (NN := 24) (As := [.int s1]) (rest := []) (c_X9_addAnswer l E m0 s1) kv_X9_addAnswer kc111 (by decide) rfl q1051 ⟨rfl, rfl⟩ ⟨Nat.le_of_ble_eq_true rfl, Nat.le_of_ble_eq_true rfl⟩ ⟨Nat.zero_le _, Nat.zero_le _⟩ rfl rfl (Nat.le_of_ble_eq_true rfl) dX9_doNode_85 (fun m1 _ => ?_)
  refine v_iconst (v := 0) dX9_doNode_88 rfl ?_
  exact v_iret dX9_doNode_89
def f_X9_doNode_43 (m0 : Mem) (x1 : Int32) (s0 : Int32) : Option (Mem × Int32) := bm (f_X9_ofNode m0 x1 1) (fun m1 r1 => if (m1 111 19) = 0 then (if r1 = 1 then (bm (f_X9_ofNode m1 x1 4) (fun m4 r4 => bm (f_X9_ofNode m4 x1 5) (fun m5 r5 => bm (f_X9_in m5 (m1 111 21) r4 r5) (fun m6 r6 => if r6 = 0 then (some (m6, (-222))) else (bm (f_X9_put m6 x1 ((6 + s0) - 1) (m6 111 21)) (fun m7 _ => some (m7, 0))))))) else (if r1 = 2 then (f_X9_doNode_185 m1 x1) else (gd (inR 9 347) (if (m1 112 (ix 9)) = 4 then (some (m1, (-222))) else (gd (inR 9 347) (gd (inR (13 + (m1 112 (ix 9))) 347) (lm (up m1 112 (ix (13 + (m1 112 (ix 9)))) x1) (fun m2 => gd (inR 9 347) (gd (inR 9 347) (lm (up m2 112 (ix 9) ((m2 112 (ix 9)) + 1)) (fun m3 => (f_X9_doNode_185 m3 x1)))))))))))) else (if r1 = 1 then (bm (f_X9_ofNode m1 x1 ((6 + s0) - 1)) (fun m9 r9 => (f_X9_doNode_85 m9 r9))) else (bm (f_X9_ofNode m1 x1 9) (fun m8 r8 => (f_X9_doNode_85 m8 r8)))))
theorem w_X9_doNode_43 (l : Launch) (E : EnvT) (m0 : Mem) (x1 : Int32) (s0 : Int32) : V l E RX9 cX9_doNode 4 (some .int) (rm_X9_doNode) 0 0 (Zm E) rvI (f_X9_doNode_43 m0 x1 s0) m0 43 [(0, .ref (eAd E 111)), (1, .int x1)] [.int s0] := by
  unfold f_X9_doNode_43
  refine v_istore_n (lv' := [(2, .int s0), (0, .ref (eAd E 111)), (1, .int x1)]) dX9_doNode_43 rfl (Nat.le_of_ble_eq_true rfl) rfl ?_
  refine v_aload_n dX9_doNode_44 rfl 1 rfl ?_
  refine v_iload_n dX9_doNode_45 rfl 2 rfl ?_
  refine v_iconst (v := 1) dX9_doNode_46 rfl ?_
  refine v_callVi (q := 111) (ci := 9) (C := RX9) (T := TX9) (NN := 24) (As := [.int x1, .int 1]) (rest := []) (c_X9_ofNode l E m0 x1 1) kv_X9_ofNode kc111 (by decide) rfl q915 ⟨rfl, rfl⟩ ⟨Nat.le_of_ble_eq_true rfl, Nat.le_of_ble_eq_true rfl⟩ ⟨Nat.zero_le _, Nat.zero_le _⟩ rfl rfl (Nat.le_of_ble_eq_true rfl) dX9_doNode_47 (fun m1 r1 => ?_)
  refine v_istore_n (lv' := [(3, .int r1), (2, .int s0), (0, .ref (eAd E 111)), (1, .int x1)]) dX9_doNode_50 rfl (Nat.le_of_ble_eq_true rfl) rfl ?_
  refine v_aload_n dX9_doNode_51 rfl 2 rfl ?_
  refine gf_X9_isQuestion kc111 q841 dX9_doNode_52 ?_
  refine v_if_eq (tgt := 90) dX9_doNode_55 (by decide) ?_ ?_
  · refine v_iload_n dX9_doNode_90 rfl 0 rfl ?_
    refine v_iconst (v := 1) dX9_doNode_91 rfl ?_
    refine v_icmp_ne (tgt := 138) dX9_doNode_92 (by decide) ?_ ?_
    · refine v_iload_n dX9_doNode_138 rfl 0 rfl ?_
      refine v_iconst (v := 2) dX9_doNode_139 rfl ?_
      refine v_icmp_eq (tgt := 185) dX9_doNode_140 (by decide) ?_ ?_
      · refine v_sub [2, 3] rfl ?_
        exact w_X9_doNode_185 l E m1 x1
      · refine v_aload_n dX9_doNode_143 rfl 2 rfl ?_
        refine gf_X9_now kc111 q822 dX9_doNode_144 ?_
        refine v_bipush (v := 9) dX9_doNode_147 rfl ?_
        refine v_gd (fun g149 => ?_)
        refine v_iald kc112 rfl g149 dX9_doNode_149 ?_
        refine v_iconst (v := 4) dX9_doNode_150 rfl ?_
        refine v_icmp_ne (tgt := 158) dX9_doNode_151 (by decide) ?_ ?_
        · refine v_aload_n dX9_doNode_158 rfl 2 rfl ?_
          refine gf_X9_now kc111 q822 dX9_doNode_159 ?_
          refine v_bipush (v := 13) dX9_doNode_162 rfl ?_
          refine v_aload_n dX9_doNode_164 rfl 2 rfl ?_
          refine gf_X9_now kc111 q822 dX9_doNode_165 ?_
          refine v_bipush (v := 9) dX9_doNode_168 rfl ?_
          refine v_gd (fun g170 => ?_)
          refine v_iald kc112 rfl g170 dX9_doNode_170 ?_
          refine v_iadd dX9_doNode_171 ?_
          refine v_iload_n dX9_doNode_172 rfl 3 rfl ?_
          refine v_gd (fun g173 => ?_)
          refine v_iast kc112 rfl g173 dX9_doNode_173 (fun m2 => ?_)
          refine v_aload_n dX9_doNode_174 rfl 2 rfl ?_
          refine gf_X9_now kc111 q822 dX9_doNode_175 ?_
          refine v_bipush (v := 9) dX9_doNode_178 rfl ?_
          refine v_dup2 dX9_doNode_180 rfl rfl ?_
          refine v_gd (fun g181 => ?_)
          refine v_iald kc112 rfl g181 dX9_doNode_181 ?_
          refine v_iconst (v := 1) dX9_doNode_182 rfl ?_
          refine v_iadd dX9_doNode_183 ?_
          refine v_gd (fun g184 => ?_)
          refine v_iast kc112 rfl g184 dX9_doNode_184 (fun m3 => ?_)
          refine v_sub [2, 3] rfl ?_
          exact w_X9_doNode_185 l E m3 x1
        · refine v_sipush (v := (-222)) dX9_doNode_154 rfl ?_
          exact v_iret dX9_doNode_157
    · refine v_aload_n dX9_doNode_95 rfl 2 rfl ?_
      refine gf_X9_unitValue kc111 q843 dX9_doNode_96 ?_
      refine v_aload_n dX9_doNode_99 rfl 2 rfl ?_
      refine v_iload_n dX9_doNode_100 rfl 3 rfl ?_
      refine v_iconst (v := 4) dX9_doNode_101 rfl ?_
      refine v_callVi (q := 111) (ci := 9) (C := RX9) (T := TX9) (NN := 24) (As := [.int x1, .int 4]) (rest := [.int (m1 111 21)]) (c_X9_ofNode l E m1 x1 4) kv_X9_ofNode kc111 (by decide) rfl q915 ⟨rfl, rfl⟩ ⟨Nat.le_of_ble_eq_true rfl, Nat.le_of_ble_eq_true rfl⟩ ⟨Nat.zero_le _, Nat.zero_le _⟩ rfl rfl (Nat.le_of_ble_eq_true rfl) dX9_doNode_102 (fun m4 r4 => ?_)
      refine v_aload_n dX9_doNode_105 rfl 2 rfl ?_
      refine v_iload_n dX9_doNode_106 rfl 3 rfl ?_
      refine v_iconst (v := 5) dX9_doNode_107 rfl ?_
      refine v_callVi (q := 111) (ci := 9) (C := RX9) (T := TX9) (NN := 24) (As := [.int x1, .int 5]) (rest := [.int r4, .int (m1 111 21)]) (c_X9_ofNode l E m4 x1 5) kv_X9_ofNode kc111 (by decide) rfl q915 ⟨rfl, rfl⟩ ⟨Nat.le_of_ble_eq_true rfl, Nat.le_of_ble_eq_true rfl⟩ ⟨Nat.zero_le _, Nat.zero_le _⟩ rfl rfl (Nat.le_of_ble_eq_true rfl) dX9_doNode_108 (fun m5 r5 => ?_)
      refine v_callSi (As := [.int (m1 111 21), .int r4, .int r5]) (rest := []) (c_X9_in l E m5 (m1 111 21) r4 r5) ks_X9_in q912 ⟨rfl, rfl⟩ ⟨Nat.le_of_ble_eq_true rfl, Nat.le_of_ble_eq_true rfl⟩ ⟨Nat.zero_le _, Nat.zero_le _⟩ rfl rfl (Nat.le_of_ble_eq_true rfl) dX9_doNode_111 (fun m6 r6 => ?_)
      refine v_if_ne (tgt := 121) dX9_doNode_114 (by decide) ?_ ?_
      · refine v_aload_n dX9_doNode_121 rfl 2 rfl ?_
        refine v_iload_n dX9_doNode_122 rfl 3 rfl ?_
        refine v_bipush (v := 6) dX9_doNode_123 rfl ?_
        refine v_iload_n dX9_doNode_125 rfl 1 rfl ?_
        refine v_iadd dX9_doNode_126 ?_
        refine v_iconst (v := 1) dX9_doNode_127 rfl ?_
        refine v_isub dX9_doNode_128 ?_
        refine v_aload_n dX9_doNode_129 rfl 2 rfl ?_
        refine gf_X9_unitValue kc111 q843 dX9_doNode_130 ?_
        refine v_callVv (q := 111) (ci := 9) (C := RX9) (T := TX9) (NN := 24) (As := [.int x1, .int ((6 + s0) - 1), .int (m6 111 21)]) (rest := []) (c_X9_put l E m6 x1 ((6 + s0) - 1) (m6 111 21)) kv_X9_put kc111 (by decide) rfl q933 ⟨rfl, rfl⟩ ⟨Nat.le_of_ble_eq_true rfl, Nat.le_of_ble_eq_true rfl⟩ ⟨Nat.zero_le _, Nat.zero_le _⟩ rfl rfl (Nat.le_of_ble_eq_true rfl) dX9_doNode_133 (fun m7 _ => ?_)
        refine v_iconst (v := 0) dX9_doNode_136 rfl ?_
        exact v_iret dX9_doNode_137
      · refine v_sipush (v := (-222)) dX9_doNode_117 rfl ?_
        exact v_iret dX9_doNode_120
  · refine v_aload_n dX9_doNode_58 rfl 2 rfl ?_
    refine v_iload_n dX9_doNode_59 rfl 0 rfl ?_
    refine v_iconst (v := 1) dX9_doNode_60 rfl ?_
    refine v_icmp_ne (tgt := 78) dX9_doNode_61 (by decide) ?_ ?_
    · refine v_aload_n dX9_doNode_78 rfl 2 rfl ?_
      refine v_iload_n dX9_doNode_79 rfl 3 rfl ?_
      refine v_bipush (v := 9) dX9_doNode_80 rfl ?_
      refine v_callVi (q := 111) (ci := 9) (C := RX9) (T := TX9) (NN := 24) (As := [.int x1, .int 9]) (rest := [.ref (eAd E 111)]) (c_X9_ofNode l E m1 x1 9) kv_X9_ofNode kc111 (by decide) rfl q915 ⟨rfl, rfl⟩ ⟨Nat.le_of_ble_eq_true rfl, Nat.le_of_ble_eq_true rfl⟩ ⟨Nat.zero_le _, Nat.zero_le _⟩ rfl rfl (Nat.le_of_ble_eq_true rfl) dX9_doNode_82 (fun m8 r8 => ?_)
      refine v_sub [] rfl ?_
      exact w_X9_doNode_85 l E m8 r8
    · refine v_aload_n dX9_doNode_64 rfl 2 rfl ?_
      refine v_iload_n dX9_doNode_65 rfl 3 rfl ?_
      refine v_bipush (v := 6) dX9_doNode_66 rfl ?_
      refine v_iload_n dX9_doNode_68 rfl 1 rfl ?_
      refine v_iadd dX9_doNode_69 ?_
      refine v_iconst (v := 1) dX9_doNode_70 rfl ?_
      refine v_isub dX9_doNode_71 ?_
      refine v_callVi (q := 111) (ci := 9) (C := RX9) (T := TX9) (NN := 24) (As := [.int x1, .int ((6 + s0) - 1)]) (rest := [.ref (eAd E 111)]) (c_X9_ofNode l E m1 x1 ((6 + s0) - 1)) kv_X9_ofNode kc111 (by decide) rfl q915 ⟨rfl, rfl⟩ ⟨Nat.le_of_ble_eq_true rfl, Nat.le_of_ble_eq_true rfl⟩ ⟨Nat.zero_le _, Nat.zero_le _⟩ rfl rfl (Nat.le_of_ble_eq_true rfl) dX9_doNode_72 (fun m9 r9 => ?_)
      refine v_goto (tgt := 85) dX9_doNode_75 (by decide) ?_
      refine v_sub [] rfl ?_
      exact w_X9_doNode_85 l E m9 r9
def f_X9_doNode_42 (m0 : Mem) (x1 : Int32) : Option (Mem × Int32) := (f_X9_doNode_43 m0 x1 1)
theorem w_X9_doNode_42 (l : Launch) (E : EnvT) (m0 : Mem) (x1 : Int32) : V l E RX9 cX9_doNode 4 (some .int) (rm_X9_doNode) 0 0 (Zm E) rvI (f_X9_doNode_42 m0 x1) m0 42 [(0, .ref (eAd E 111)), (1, .int x1)] [] := by
  unfold f_X9_doNode_42
  refine v_iconst (v := 1) dX9_doNode_42 rfl ?_
  exact w_X9_doNode_43 l E m0 x1 1
def f_X9_doNode (m0 : Mem) (x1 : Int32) : Option (Mem × Int32) := gd (inR ((m0 111 15) - 1) 20) (if (m0 122 (ix ((m0 111 15) - 1))) = 0 then (f_X9_doNode_42 m0 x1) else (gd (inR ((m0 111 10) - 1) 8) (if (m0 119 (ix ((m0 111 10) - 1))) ≤ 0 then (f_X9_doNode_42 m0 x1) else (gd (inR ((m0 111 10) - 1) 8) ((f_X9_doNode_43 m0 x1 (m0 119 (ix ((m0 111 10) - 1)))))))))
theorem c_X9_doNode (l : Launch) (E : EnvT) (m0 : Mem) (x1 : Int32) : CT l E yX9_doNode cX9_doNode 4 (some .int) (rm_X9_doNode) rvI (f_X9_doNode m0 x1) [.ref (eAd E 111), .int x1] m0 := by
  refine CT.ofV (own := RX9) (by decide) rfl (Nat.le_of_ble_eq_true rfl) ?_
  show V l E RX9 cX9_doNode 4 (some .int) (rm_X9_doNode) 0 0 (Zm E) rvI _ m0 0 [(0, .ref (eAd E 111)), (1, .int x1)] []
  unfold f_X9_doNode
  refine v_aload_n dX9_doNode_0 rfl 0 rfl ?_
  refine gf_X9_fits kc111 q835 dX9_doNode_1 ?_
  refine v_aload_n dX9_doNode_4 rfl 0 rfl ?_
  refine gf_X9_deep kc111 q837 dX9_doNode_5 ?_
  refine v_iconst (v := 1) dX9_doNode_8 rfl ?_
  refine v_isub dX9_doNode_9 ?_
  refine v_gd (fun g10 => ?_)
  refine v_zald kc122 rfl g10 dX9_doNode_10 ?_
  refine v_if_eq (tgt := 42) dX9_doNode_11 (by decide) ?_ ?_
  · exact w_X9_doNode_42 l E m0 x1
  · refine v_aload_n dX9_doNode_14 rfl 0 rfl ?_
    refine gf_X9_wordFigure kc111 q831 dX9_doNode_15 ?_
    refine v_aload_n dX9_doNode_18 rfl 0 rfl ?_
    refine gf_X9_words kc111 q832 dX9_doNode_19 ?_
    refine v_iconst (v := 1) dX9_doNode_22 rfl ?_
    refine v_isub dX9_doNode_23 ?_
    refine v_gd (fun g24 => ?_)
    refine v_iald kc119 rfl g24 dX9_doNode_24 ?_
    refine v_if_le (tgt := 42) dX9_doNode_25 (by decide) ?_ ?_
    · exact w_X9_doNode_42 l E m0 x1
    · refine v_aload_n dX9_doNode_28 rfl 0 rfl ?_
      refine gf_X9_wordFigure kc111 q831 dX9_doNode_29 ?_
      refine v_aload_n dX9_doNode_32 rfl 0 rfl ?_
      refine gf_X9_words kc111 q832 dX9_doNode_33 ?_
      refine v_iconst (v := 1) dX9_doNode_36 rfl ?_
      refine v_isub dX9_doNode_37 ?_
      refine v_gd (fun g38 => ?_)
      refine v_iald kc119 rfl g38 dX9_doNode_38 ?_
      refine v_goto (tgt := 43) dX9_doNode_39 (by decide) ?_
      exact w_X9_doNode_43 l E m0 x1 (m0 119 (ix ((m0 111 10) - 1)))

def rm_X9_doUnit : Room := { frames := 7, cells := 0, slots := 0, locals := 154 }
def f_X9_doUnit_111 (N : Nat) (m0 : Mem) (x1 : Int32) (s0 : Int32) (s1 : Int32) : Option (Mem × Int32) := if s0 = s1 then (if (m0 111 17) = 0 then (bm (f_X9_doNode m0 x1) (fun m1 r1 => some (m1, r1))) else (bm (f_X9_doCommon N m0) (fun m2 r2 => some (m2, r2)))) else (if (m0 111 20) = 0 then (some (m0, (-109))) else (some (m0, (-108))))
theorem w_X9_doUnit_111 (l : Launch) (E : EnvT) (N : Nat) (m0 : Mem) (x1 : Int32) (s0 : Int32) (s1 : Int32) : V l E RX9 cX9_doUnit 3 (some .int) (rm_X9_doUnit) 0 0 (Zm E) rvI (f_X9_doUnit_111 N m0 x1 s0 s1) m0 111 [(0, .ref (eAd E 111)), (1, .int x1)] [.int s1, .int s0] := by
  unfold f_X9_doUnit_111
  refine v_icmp_eq (tgt := 129) dX9_doUnit_111 (by decide) ?_ ?_
  · refine v_aload_n dX9_doUnit_129 rfl 0 rfl ?_
    refine gf_X9_isCommon kc111 q839 dX9_doUnit_130 ?_
    refine v_if_eq (tgt := 143) dX9_doUnit_133 (by decide) ?_ ?_
    · refine v_aload_n dX9_doUnit_143 rfl 0 rfl ?_
      refine v_iload_n dX9_doUnit_144 rfl 1 rfl ?_
      refine v_callVi (q := 111) (ci := 9) (C := RX9) (T := TX9) (NN := 24) (As := [.int x1]) (rest := []) (c_X9_doNode l E m0 x1) kv_X9_doNode kc111 (by decide) rfl q1071 ⟨rfl, rfl⟩ ⟨Nat.le_of_ble_eq_true rfl, Nat.le_of_ble_eq_true rfl⟩ ⟨Nat.zero_le _, Nat.zero_le _⟩ rfl rfl (Nat.le_of_ble_eq_true rfl) dX9_doUnit_145 (fun m1 r1 => ?_)
      exact v_iret dX9_doUnit_148
    · refine v_aload_n dX9_doUnit_136 rfl 0 rfl ?_
      refine v_callVi (q := 111) (ci := 9) (C := RX9) (T := TX9) (NN := 24) (As := []) (rest := []) (c_X9_doCommon l E N m0) kv_X9_doCommon kc111 (by decide) rfl q1047 ⟨rfl, rfl⟩ ⟨Nat.le_of_ble_eq_true rfl, Nat.le_of_ble_eq_true rfl⟩ ⟨Nat.zero_le _, Nat.zero_le _⟩ rfl rfl (Nat.le_of_ble_eq_true rfl) dX9_doUnit_137 (fun m2 r2 => ?_)
      refine v_goto (tgt := 148) dX9_doUnit_140 (by decide) ?_
      exact v_iret dX9_doUnit_148
  · refine v_aload_n dX9_doUnit_114 rfl 0 rfl ?_
    refine gf_X9_hasValue kc111 q842 dX9_doUnit_115 ?_
    refine v_if_eq (tgt := 126) dX9_doUnit_118 (by decide) ?_ ?_
    · refine v_bipush (v := (-109)) dX9_doUnit_126 rfl ?_
      exact v_iret dX9_doUnit_128
    · refine v_bipush (v := (-108)) dX9_doUnit_121 rfl ?_
      refine v_goto (tgt := 128) dX9_doUnit_123 (by decide) ?_
      exact v_iret dX9_doUnit_128
def f_X9_doUnit_97 (N : Nat) (m0 : Mem) (x1 : Int32) (x2 : Int32) : Option (Mem × Int32) := if x2 = 1 then (f_X9_doUnit_111 N m0 x1 (m0 111 20) 1) else (f_X9_doUnit_111 N m0 x1 (m0 111 20) 0)
theorem w_X9_doUnit_97 (l : Launch) (E : EnvT) (N : Nat) (m0 : Mem) (x1 : Int32) (x2 : Int32) : V l E RX9 cX9_doUnit 3 (some .int) (rm_X9_doUnit) 0 0 (Zm E) rvI (f_X9_doUnit_97 N m0 x1 x2) m0 97 [(0, .ref (eAd E 111)), (1, .int x1), (2, .int x2)] [] := by
  unfold f_X9_doUnit_97
  refine v_aload_n dX9_doUnit_97 rfl 0 rfl ?_
  refine gf_X9_hasValue kc111 q842 dX9_doUnit_98 ?_
  refine v_iload_n dX9_doUnit_101 rfl 2 rfl ?_
  refine v_iconst (v := 1) dX9_doUnit_102 rfl ?_
  refine v_icmp_ne (tgt := 110) dX9_doUnit_103 (by decide) ?_ ?_
  · refine v_iconst (v := 0) dX9_doUnit_110 rfl ?_
    refine v_sub [0, 1] rfl ?_
    exact w_X9_doUnit_111 l E N m0 x1 (m0 111 20) 0
  · refine v_iconst (v := 1) dX9_doUnit_106 rfl ?_
    refine v_goto (tgt := 111) dX9_doUnit_107 (by decide) ?_
    refine v_sub [0, 1] rfl ?_
    exact w_X9_doUnit_111 l E N m0 x1 (m0 111 20) 1
def f_X9_doUnit_70 (N : Nat) (m0 : Mem) (x1 : Int32) (x2 : Int32) : Option (Mem × Int32) := if x2 = (-10001) then (some (m0, (-113))) else (if (m0 111 17) = 0 then (lm (up m0 111 22 ((m0 111 10) - 1)) (fun m1 => (f_X9_doUnit_97 N m1 x1 x2))) else (f_X9_doUnit_97 N m0 x1 x2))
theorem w_X9_doUnit_70 (l : Launch) (E : EnvT) (N : Nat) (m0 : Mem) (x1 : Int32) (x2 : Int32) : V l E RX9 cX9_doUnit 3 (some .int) (rm_X9_doUnit) 0 0 (Zm E) rvI (f_X9_doUnit_70 N m0 x1 x2) m0 70 [(0, .ref (eAd E 111)), (1, .int x1), (2, .int x2)] [] := by
  unfold f_X9_doUnit_70
  refine v_iload_n dX9_doUnit_70 rfl 2 rfl ?_
  refine v_sipush (v := (-10001)) dX9_doUnit_71 rfl ?_
  refine v_icmp_ne (tgt := 80) dX9_doUnit_74 (by decide) ?_ ?_
  · refine v_aload_n dX9_doUnit_80 rfl 0 rfl ?_
    refine gf_X9_isCommon kc111 q839 dX9_doUnit_81 ?_
    refine v_if_ne (tgt := 97) dX9_doUnit_84 (by decide) ?_ ?_
    · exact w_X9_doUnit_97 l E N m0 x1 x2
    · refine v_aload_n dX9_doUnit_87 rfl 0 rfl ?_
      refine v_aload_n dX9_doUnit_88 rfl 0 rfl ?_
      refine gf_X9_words kc111 q832 dX9_doUnit_89 ?_
      refine v_iconst (v := 1) dX9_doUnit_92 rfl ?_
      refine v_isub dX9_doUnit_93 ?_
      refine pf_X9_branch kc111 q844 dX9_doUnit_94 (fun m1 => ?_)
      exact w_X9_doUnit_97 l E N m1 x1 x2
  · refine v_bipush (v := (-113)) dX9_doUnit_77 rfl ?_
    exact v_iret dX9_doUnit_79
def f_X9_doUnit_69 (N : Nat) (m0 : Mem) (x1 : Int32) (s0 : Int32) : Option (Mem × Int32) := (f_X9_doUnit_70 N m0 x1 s0)
theorem w_X9_doUnit_69 (l : Launch) (E : EnvT) (N : Nat) (m0 : Mem) (x1 : Int32) (s0 : Int32) : V l E RX9 cX9_doUnit 3 (some .int) (rm_X9_doUnit) 0 0 (Zm E) rvI (f_X9_doUnit_69 N m0 x1 s0) m0 69 [(0, .ref (eAd E 111)), (1, .int x1)] [.int s0] := by
  unfold f_X9_doUnit_69
  refine v_istore_n (lv' := [(2, .int s0), (0, .ref (eAd E 111)), (1, .int x1)]) dX9_doUnit_69 rfl (Nat.le_of_ble_eq_true rfl) rfl ?_
  refine v_sub [1, 2, 0] rfl ?_
  exact w_X9_doUnit_70 l E N m0 x1 s0
def f_X9_doUnit_68 (N : Nat) (m0 : Mem) (x1 : Int32) : Option (Mem × Int32) := (f_X9_doUnit_69 N m0 x1 0)
theorem w_X9_doUnit_68 (l : Launch) (E : EnvT) (N : Nat) (m0 : Mem) (x1 : Int32) : V l E RX9 cX9_doUnit 3 (some .int) (rm_X9_doUnit) 0 0 (Zm E) rvI (f_X9_doUnit_68 N m0 x1) m0 68 [(0, .ref (eAd E 111)), (1, .int x1)] [] := by
  unfold f_X9_doUnit_68
  refine v_iconst (v := 0) dX9_doUnit_68 rfl ?_
  exact w_X9_doUnit_69 l E N m0 x1 0
def f_X9_doUnit (N : Nat) (m0 : Mem) : Option (Mem × Int32) := bm (f_X9_isUnit N m0) (fun m1 r1 => if r1 = 0 then (some (m1, (-102))) else (if (m1 111 17) = 0 then (bm (f_X9_find N m1) (fun m2 r2 => if r2 = (-10001) then (f_X9_doUnit_69 N m2 r2 (-10001)) else (bm (f_X9_ofNode m2 r2 1) (fun m3 r3 => if r3 = 1 then (if (m3 111 19) = 0 then (f_X9_doUnit_69 N m3 r2 1) else (f_X9_doUnit_68 N m3 r2)) else (f_X9_doUnit_68 N m3 r2))))) else (bm (f_X9_form m1) (fun m4 r4 => (f_X9_doUnit_70 N m4 0 r4)))))
theorem c_X9_doUnit (l : Launch) (E : EnvT) (N : Nat) (m0 : Mem) : CT l E yX9_doUnit cX9_doUnit 3 (some .int) (rm_X9_doUnit) rvI (f_X9_doUnit N m0) [.ref (eAd E 111)] m0 := by
  refine CT.ofV (own := RX9) (by decide) rfl (Nat.le_of_ble_eq_true rfl) ?_
  show V l E RX9 cX9_doUnit 3 (some .int) (rm_X9_doUnit) 0 0 (Zm E) rvI _ m0 0 [(0, .ref (eAd E 111))] []
  unfold f_X9_doUnit
  refine v_aload_n dX9_doUnit_0 rfl 0 rfl ?_
  refine v_callVi (q := 111) (ci := 9) (C := RX9) (T := TX9) (NN := 24) (As := []) (rest := []) (c_X9_isUnit l E N m0) kv_X9_isUnit kc111 (by decide) rfl q976 ⟨rfl, rfl⟩ ⟨Nat.le_of_ble_eq_true rfl, Nat.le_of_ble_eq_true rfl⟩ ⟨Nat.zero_le _, Nat.zero_le _⟩ rfl rfl (Nat.le_of_ble_eq_true rfl) dX9_doUnit_1 (fun m1 r1 => ?_)
  refine v_if_ne (tgt := 10) dX9_doUnit_4 (by decide) ?_ ?_
  · refine v_iconst (v := 0) dX9_doUnit_10 rfl ?_
    refine v_istore_n (lv' := [(1, .int 0), (0, .ref (eAd E 111))]) dX9_doUnit_11 rfl (Nat.le_of_ble_eq_true rfl) rfl ?_
    refine v_iconst (v := 0) dX9_doUnit_12 rfl ?_
    refine v_istore_n (lv' := [(2, .int 0), (1, .int 0), (0, .ref (eAd E 111))]) dX9_doUnit_13 rfl (Nat.le_of_ble_eq_true rfl) rfl ?_
    refine v_aload_n dX9_doUnit_14 rfl 2 rfl ?_
    refine gf_X9_isCommon kc111 q839 dX9_doUnit_15 ?_
    refine v_if_eq (tgt := 29) dX9_doUnit_18 (by decide) ?_ ?_
    · refine v_aload_n dX9_doUnit_29 rfl 2 rfl ?_
      refine v_callVi (q := 111) (ci := 9) (C := RX9) (T := TX9) (NN := 24) (As := []) (rest := []) (c_X9_find l E N m1) kv_X9_find kc111 (by decide) rfl q1027 ⟨rfl, rfl⟩ ⟨Nat.le_of_ble_eq_true rfl, Nat.le_of_ble_eq_true rfl⟩ ⟨Nat.zero_le _, Nat.zero_le _⟩ rfl rfl (Nat.le_of_ble_eq_true rfl) dX9_doUnit_30 (fun m2 r2 => ?_)
      refine v_istore_n (lv' := [(1, .int r2), (2, .int 0), (0, .ref (eAd E 111))]) dX9_doUnit_33 rfl (Nat.le_of_ble_eq_true rfl) rfl ?_
      refine v_iload_n dX9_doUnit_34 rfl 0 rfl ?_
      refine v_sipush (v := (-10001)) dX9_doUnit_35 rfl ?_
      refine v_icmp_ne (tgt := 47) dX9_doUnit_38 (by decide) ?_ ?_
      · refine v_aload_n dX9_doUnit_47 rfl 2 rfl ?_
        refine v_iload_n dX9_doUnit_48 rfl 0 rfl ?_
        refine v_iconst (v := 1) dX9_doUnit_49 rfl ?_
        refine v_callVi (q := 111) (ci := 9) (C := RX9) (T := TX9) (NN := 24) (As := [.int r2, .int 1]) (rest := []) (c_X9_ofNode l E m2 r2 1) kv_X9_ofNode kc111 (by decide) rfl q915 ⟨rfl, rfl⟩ ⟨Nat.le_of_ble_eq_true rfl, Nat.le_of_ble_eq_true rfl⟩ ⟨Nat.zero_le _, Nat.zero_le _⟩ rfl rfl (Nat.le_of_ble_eq_true rfl) dX9_doUnit_50 (fun m3 r3 => ?_)
        refine v_iconst (v := 1) dX9_doUnit_53 rfl ?_
        refine v_icmp_ne (tgt := 68) dX9_doUnit_54 (by decide) ?_ ?_
        · refine v_sub [2, 0] rfl ?_
          exact w_X9_doUnit_68 l E N m3 r2
        · refine v_aload_n dX9_doUnit_57 rfl 2 rfl ?_
          refine gf_X9_isQuestion kc111 q841 dX9_doUnit_58 ?_
          refine v_if_ne (tgt := 68) dX9_doUnit_61 (by decide) ?_ ?_
          · refine v_sub [2, 0] rfl ?_
            exact w_X9_doUnit_68 l E N m3 r2
          · refine v_iconst (v := 1) dX9_doUnit_64 rfl ?_
            refine v_goto (tgt := 69) dX9_doUnit_65 (by decide) ?_
            refine v_sub [2, 0] rfl ?_
            exact w_X9_doUnit_69 l E N m3 r2 1
      · refine v_sipush (v := (-10001)) dX9_doUnit_41 rfl ?_
        refine v_goto (tgt := 69) dX9_doUnit_44 (by decide) ?_
        refine v_sub [2, 0] rfl ?_
        exact w_X9_doUnit_69 l E N m2 r2 (-10001)
    · refine v_aload_n dX9_doUnit_21 rfl 2 rfl ?_
      refine v_callVi (q := 111) (ci := 9) (C := RX9) (T := TX9) (NN := 24) (As := []) (rest := []) (c_X9_form l E m1) kv_X9_form kc111 (by decide) rfl q1023 ⟨rfl, rfl⟩ ⟨Nat.le_of_ble_eq_true rfl, Nat.le_of_ble_eq_true rfl⟩ ⟨Nat.zero_le _, Nat.zero_le _⟩ rfl rfl (Nat.le_of_ble_eq_true rfl) dX9_doUnit_22 (fun m4 r4 => ?_)
      refine v_istore_n (lv' := [(2, .int r4), (1, .int 0), (0, .ref (eAd E 111))]) dX9_doUnit_25 rfl (Nat.le_of_ble_eq_true rfl) rfl ?_
      refine v_goto (tgt := 70) dX9_doUnit_26 (by decide) ?_
      refine v_sub [2, 1, 0] rfl ?_
      exact w_X9_doUnit_70 l E N m4 0 r4
  · refine v_bipush (v := (-102)) dX9_doUnit_7 rfl ?_
    exact v_iret dX9_doUnit_9

def rm_X9_sends : Room := { frames := 8, cells := 0, slots := 0, locals := 176 }
def f_X9_sends_83 (N : Nat) (rec_18 : Mem → Int32 → Int32 → Option (Mem × Int32)) (m0 : Mem) (x1 : Int32) (s0 : Int32) : Option (Mem × Int32) := lm (up m0 111 16 ((m0 111 16) + 1)) (fun m1 => (rec_18 m1 x1 s0))
theorem w_X9_sends_83 (l : Launch) (E : EnvT) (N : Nat) (rec_18 : Mem → Int32 → Int32 → Option (Mem × Int32)) (hrec_18 : ∀ (m0 : Mem) (x1 : Int32) (x2 : Int32), V l E RX9 cX9_sends 4 (some .int) (rm_X9_sends) 0 0 (Zm E) rvI (rec_18 m0 x1 x2) m0 18 [(0, .ref (eAd E 111)), (1, .int x1), (2, .int x2)] []) (m0 : Mem) (x1 : Int32) (s0 : Int32) : V l E RX9 cX9_sends 4 (some .int) (rm_X9_sends) 0 0 (Zm E) rvI (f_X9_sends_83 N rec_18 m0 x1 s0) m0 83 [(0, .ref (eAd E 111)), (1, .int x1)] [.int s0] := by
  unfold f_X9_sends_83
  refine v_istore_n (lv' := [(2, .int s0), (0, .ref (eAd E 111)), (1, .int x1)]) dX9_sends_83 rfl (Nat.le_of_ble_eq_true rfl) rfl ?_
  refine v_aload_n dX9_sends_84 rfl 1 rfl ?_
  refine v_dup dX9_sends_85 rfl ?_
  refine gf_X9_at kc111 q838 dX9_sends_86 ?_
  refine v_iconst (v := 1) dX9_sends_89 rfl ?_
  refine v_iadd dX9_sends_90 ?_
  refine pf_X9_at kc111 q838 dX9_sends_91 (fun m1 => ?_)
  refine v_goto (tgt := 18) dX9_sends_94 (by decide) ?_
  refine v_sub [1, 2, 0] rfl ?_
  exact hrec_18 m1 x1 s0
def f_X9_sends_82 (N : Nat) (rec_18 : Mem → Int32 → Int32 → Option (Mem × Int32)) (m0 : Mem) (x1 : Int32) : Option (Mem × Int32) := (f_X9_sends_83 N rec_18 m0 x1 0)
theorem w_X9_sends_82 (l : Launch) (E : EnvT) (N : Nat) (rec_18 : Mem → Int32 → Int32 → Option (Mem × Int32)) (hrec_18 : ∀ (m0 : Mem) (x1 : Int32) (x2 : Int32), V l E RX9 cX9_sends 4 (some .int) (rm_X9_sends) 0 0 (Zm E) rvI (rec_18 m0 x1 x2) m0 18 [(0, .ref (eAd E 111)), (1, .int x1), (2, .int x2)] []) (m0 : Mem) (x1 : Int32) : V l E RX9 cX9_sends 4 (some .int) (rm_X9_sends) 0 0 (Zm E) rvI (f_X9_sends_82 N rec_18 m0 x1) m0 82 [(0, .ref (eAd E 111)), (1, .int x1)] [] := by
  unfold f_X9_sends_82
  refine v_iconst (v := 0) dX9_sends_82 rfl ?_
  exact w_X9_sends_83 l E N rec_18 hrec_18 m0 x1 0
def f_X9_sends_63 (N : Nat) (rec_18 : Mem → Int32 → Int32 → Option (Mem × Int32)) (m0 : Mem) (x2 : Int32) (s0 : Int32) (s1 : Int32) : Option (Mem × Int32) := if x2 = 0 then (f_X9_sends_82 N rec_18 m0 (s0 + s1)) else (bm (f_X9_here m0) (fun m1 r1 => if r1 = 59 then (f_X9_sends_83 N rec_18 m1 (s0 + s1) 1) else (f_X9_sends_82 N rec_18 m1 (s0 + s1))))
theorem w_X9_sends_63 (l : Launch) (E : EnvT) (N : Nat) (rec_18 : Mem → Int32 → Int32 → Option (Mem × Int32)) (hrec_18 : ∀ (m0 : Mem) (x1 : Int32) (x2 : Int32), V l E RX9 cX9_sends 4 (some .int) (rm_X9_sends) 0 0 (Zm E) rvI (rec_18 m0 x1 x2) m0 18 [(0, .ref (eAd E 111)), (1, .int x1), (2, .int x2)] []) (m0 : Mem) (x2 : Int32) (s0 : Int32) (s1 : Int32) : V l E RX9 cX9_sends 4 (some .int) (rm_X9_sends) 0 0 (Zm E) rvI (f_X9_sends_63 N rec_18 m0 x2 s0 s1) m0 63 [(0, .ref (eAd E 111)), (2, .int x2)] [.int s1, .int s0] := by
  unfold f_X9_sends_63
  refine v_iadd dX9_sends_63 ?_
  refine v_istore_n (lv' := [(1, .int (s0 + s1)), (0, .ref (eAd E 111)), (2, .int x2)]) dX9_sends_64 rfl (Nat.le_of_ble_eq_true rfl) rfl ?_
  refine v_iload_n dX9_sends_65 rfl 2 rfl ?_
  refine v_if_eq (tgt := 82) dX9_sends_66 (by decide) ?_ ?_
  · refine v_sub [1, 0] rfl ?_
    exact w_X9_sends_82 l E N rec_18 hrec_18 m0 (s0 + s1)
  · refine v_aload_n dX9_sends_69 rfl 1 rfl ?_
    refine v_callVi (q := 111) (ci := 9) (C := RX9) (T := TX9) (NN := 24) (As := []) (rest := []) (c_X9_here l E m0) kv_X9_here kc111 (by decide) rfl q984 ⟨rfl, rfl⟩ ⟨Nat.le_of_ble_eq_true rfl, Nat.le_of_ble_eq_true rfl⟩ ⟨Nat.zero_le _, Nat.zero_le _⟩ rfl rfl (Nat.le_of_ble_eq_true rfl) dX9_sends_70 (fun m1 r1 => ?_)
    refine v_bipush (v := 59) dX9_sends_73 rfl ?_
    refine v_icmp_ne (tgt := 82) dX9_sends_75 (by decide) ?_ ?_
    · refine v_sub [1, 0] rfl ?_
      exact w_X9_sends_82 l E N rec_18 hrec_18 m1 (s0 + s1)
    · refine v_iconst (v := 1) dX9_sends_78 rfl ?_
      refine v_goto (tgt := 83) dX9_sends_79 (by decide) ?_
      refine v_sub [1, 0] rfl ?_
      exact w_X9_sends_83 l E N rec_18 hrec_18 m1 (s0 + s1) 1
def f_X9_sends_52 (N : Nat) (rec_18 : Mem → Int32 → Int32 → Option (Mem × Int32)) (m0 : Mem) (x1 : Int32) (s0 : Int32) : Option (Mem × Int32) := if s0 = 0 then (f_X9_sends_63 N rec_18 m0 s0 x1 0) else (f_X9_sends_63 N rec_18 m0 s0 x1 1)
theorem w_X9_sends_52 (l : Launch) (E : EnvT) (N : Nat) (rec_18 : Mem → Int32 → Int32 → Option (Mem × Int32)) (hrec_18 : ∀ (m0 : Mem) (x1 : Int32) (x2 : Int32), V l E RX9 cX9_sends 4 (some .int) (rm_X9_sends) 0 0 (Zm E) rvI (rec_18 m0 x1 x2) m0 18 [(0, .ref (eAd E 111)), (1, .int x1), (2, .int x2)] []) (m0 : Mem) (x1 : Int32) (s0 : Int32) : V l E RX9 cX9_sends 4 (some .int) (rm_X9_sends) 0 0 (Zm E) rvI (f_X9_sends_52 N rec_18 m0 x1 s0) m0 52 [(0, .ref (eAd E 111)), (1, .int x1)] [.int s0] := by
  unfold f_X9_sends_52
  refine v_istore_n (lv' := [(2, .int s0), (0, .ref (eAd E 111)), (1, .int x1)]) dX9_sends_52 rfl (Nat.le_of_ble_eq_true rfl) rfl ?_
  refine v_iload_n dX9_sends_53 rfl 2 rfl ?_
  refine v_iload_n dX9_sends_54 rfl 0 rfl ?_
  refine v_if_eq (tgt := 62) dX9_sends_55 (by decide) ?_ ?_
  · refine v_iconst (v := 0) dX9_sends_62 rfl ?_
    refine v_sub [1, 0] rfl ?_
    exact w_X9_sends_63 l E N rec_18 hrec_18 m0 s0 x1 0
  · refine v_iconst (v := 1) dX9_sends_58 rfl ?_
    refine v_goto (tgt := 63) dX9_sends_59 (by decide) ?_
    refine v_sub [1, 0] rfl ?_
    exact w_X9_sends_63 l E N rec_18 hrec_18 m0 s0 x1 1
def f_X9_sends_47 (N : Nat) (rec_18 : Mem → Int32 → Int32 → Option (Mem × Int32)) (m0 : Mem) (x1 : Int32) : Option (Mem × Int32) := (f_X9_sends_52 N rec_18 m0 x1 1)
theorem w_X9_sends_47 (l : Launch) (E : EnvT) (N : Nat) (rec_18 : Mem → Int32 → Int32 → Option (Mem × Int32)) (hrec_18 : ∀ (m0 : Mem) (x1 : Int32) (x2 : Int32), V l E RX9 cX9_sends 4 (some .int) (rm_X9_sends) 0 0 (Zm E) rvI (rec_18 m0 x1 x2) m0 18 [(0, .ref (eAd E 111)), (1, .int x1), (2, .int x2)] []) (m0 : Mem) (x1 : Int32) : V l E RX9 cX9_sends 4 (some .int) (rm_X9_sends) 0 0 (Zm E) rvI (f_X9_sends_47 N rec_18 m0 x1) m0 47 [(0, .ref (eAd E 111)), (1, .int x1)] [] := by
  unfold f_X9_sends_47
  refine v_iconst (v := 1) dX9_sends_47 rfl ?_
  refine v_goto (tgt := 52) dX9_sends_48 (by decide) ?_
  exact w_X9_sends_52 l E N rec_18 hrec_18 m0 x1 1
def f_X9_sends_36 (N : Nat) (rec_18 : Mem → Int32 → Int32 → Option (Mem × Int32)) (m0 : Mem) (x1 : Int32) (x3 : Int32) : Option (Mem × Int32) := if x3 = 0 then (f_X9_sends_47 N rec_18 m0 x1) else (if x3 = (-222) then (f_X9_sends_47 N rec_18 m0 x1) else (f_X9_sends_52 N rec_18 m0 x1 0))
theorem w_X9_sends_36 (l : Launch) (E : EnvT) (N : Nat) (rec_18 : Mem → Int32 → Int32 → Option (Mem × Int32)) (hrec_18 : ∀ (m0 : Mem) (x1 : Int32) (x2 : Int32), V l E RX9 cX9_sends 4 (some .int) (rm_X9_sends) 0 0 (Zm E) rvI (rec_18 m0 x1 x2) m0 18 [(0, .ref (eAd E 111)), (1, .int x1), (2, .int x2)] []) (m0 : Mem) (x1 : Int32) (x3 : Int32) : V l E RX9 cX9_sends 4 (some .int) (rm_X9_sends) 0 0 (Zm E) rvI (f_X9_sends_36 N rec_18 m0 x1 x3) m0 36 [(0, .ref (eAd E 111)), (1, .int x1), (3, .int x3)] [] := by
  unfold f_X9_sends_36
  refine v_iload_n dX9_sends_36 rfl 2 rfl ?_
  refine v_if_eq (tgt := 47) dX9_sends_37 (by decide) ?_ ?_
  · refine v_sub [0, 1] rfl ?_
    exact w_X9_sends_47 l E N rec_18 hrec_18 m0 x1
  · refine v_iload_n dX9_sends_40 rfl 2 rfl ?_
    refine v_sipush (v := (-222)) dX9_sends_41 rfl ?_
    refine v_icmp_ne (tgt := 51) dX9_sends_44 (by decide) ?_ ?_
    · refine v_iconst (v := 0) dX9_sends_51 rfl ?_
      refine v_sub [0, 1] rfl ?_
      exact w_X9_sends_52 l E N rec_18 hrec_18 m0 x1 0
    · refine v_sub [0, 1] rfl ?_
      exact w_X9_sends_47 l E N rec_18 hrec_18 m0 x1
def f_X9_sends_18b (N : Nat) (rec_18 : Mem → Int32 → Int32 → Option (Mem × Int32)) (m0 : Mem) (x1 : Int32) (x2 : Int32) : Option (Mem × Int32) := if x2 = 0 then (bm (f_X9_push N m0) (fun m1 _ => some (m1, x1))) else (bm (f_X9_doUnit N m0) (fun m2 r2 => if r2 = 0 then (f_X9_sends_36 N rec_18 m2 x1 r2) else (bm (f_X9_addFault m2 r2) (fun m3 _ => (f_X9_sends_36 N rec_18 m3 x1 r2)))))
def f_X9_sends_18 (N : Nat) : Nat → Mem → Int32 → Int32 → Option (Mem × Int32)
  | 0 => fun _ _ _ => none
  | n + 1 => f_X9_sends_18b N (f_X9_sends_18 N n)
theorem w_X9_sends_18b (l : Launch) (E : EnvT) (N : Nat) (rec_18 : Mem → Int32 → Int32 → Option (Mem × Int32)) (hrec_18 : ∀ (m0 : Mem) (x1 : Int32) (x2 : Int32), V l E RX9 cX9_sends 4 (some .int) (rm_X9_sends) 0 0 (Zm E) rvI (rec_18 m0 x1 x2) m0 18 [(0, .ref (eAd E 111)), (1, .int x1), (2, .int x2)] []) (m0 : Mem) (x1 : Int32) (x2 : Int32) : V l E RX9 cX9_sends 4 (some .int) (rm_X9_sends) 0 0 (Zm E) rvI (f_X9_sends_18b N rec_18 m0 x1 x2) m0 18 [(0, .ref (eAd E 111)), (1, .int x1), (2, .int x2)] [] := by
  unfold f_X9_sends_18b
  refine v_iload_n dX9_sends_18 rfl 2 rfl ?_
  refine v_if_eq (tgt := 97) dX9_sends_19 (by decide) ?_ ?_
  · refine v_aload_n dX9_sends_97 rfl 0 rfl ?_
    refine v_callVv (q := 111) (ci := 9) (C := RX9) (T := TX9) (NN := 24) (As := []) (rest := []) (c_X9_push l E N m0) kv_X9_push kc111 (by decide) rfl q940 ⟨rfl, rfl⟩ ⟨Nat.le_of_ble_eq_true rfl, Nat.le_of_ble_eq_true rfl⟩ ⟨Nat.zero_le _, Nat.zero_le _⟩ rfl rfl (Nat.le_of_ble_eq_true rfl) dX9_sends_98 (fun m1 _ => ?_)
    refine v_iload_n dX9_sends_101 rfl 1 rfl ?_
    exact v_iret dX9_sends_102
  · refine v_aload_n dX9_sends_22 rfl 0 rfl ?_
    refine v_callVi (q := 111) (ci := 9) (C := RX9) (T := TX9) (NN := 24) (As := []) (rest := []) (c_X9_doUnit l E N m0) kv_X9_doUnit kc111 (by decide) rfl q972 ⟨rfl, rfl⟩ ⟨Nat.le_of_ble_eq_true rfl, Nat.le_of_ble_eq_true rfl⟩ ⟨Nat.zero_le _, Nat.zero_le _⟩ rfl rfl (Nat.le_of_ble_eq_true rfl) dX9_sends_23 (fun m2 r2 => ?_)
    refine v_istore_n (lv' := [(3, .int r2), (0, .ref (eAd E 111)), (1, .int x1), (2, .int x2)]) dX9_sends_26 rfl (Nat.le_of_ble_eq_true rfl) rfl ?_
    refine v_iload_n dX9_sends_27 rfl 0 rfl ?_
    refine v_if_eq (tgt := 36) dX9_sends_28 (by decide) ?_ ?_
    · refine v_sub [1, 2, 0] rfl ?_
      exact w_X9_sends_36 l E N rec_18 hrec_18 m2 x1 r2
    · refine v_aload_n dX9_sends_31 rfl 1 rfl ?_
      refine v_iload_n dX9_sends_32 rfl 0 rfl ?_
      refine v_callVv (q := 111) (ci := 9) (C := RX9) (T := TX9) (NN := 24) (As := [.int r2]) (rest := []) (c_X9_addFault l E m2 r2) kv_X9_addFault kc111 (by decide) rfl q1055 ⟨rfl, rfl⟩ ⟨Nat.le_of_ble_eq_true rfl, Nat.le_of_ble_eq_true rfl⟩ ⟨Nat.zero_le _, Nat.zero_le _⟩ rfl rfl (Nat.le_of_ble_eq_true rfl) dX9_sends_33 (fun m3 _ => ?_)
      refine v_sub [1, 2, 0] rfl ?_
      exact w_X9_sends_36 l E N rec_18 hrec_18 m3 x1 r2
theorem w_X9_sends_18 (l : Launch) (E : EnvT) (N : Nat) : ∀ (n : Nat) (m0 : Mem) (x1 : Int32) (x2 : Int32), V l E RX9 cX9_sends 4 (some .int) (rm_X9_sends) 0 0 (Zm E) rvI (f_X9_sends_18 N n m0 x1 x2) m0 18 [(0, .ref (eAd E 111)), (1, .int x1), (2, .int x2)] [] := by
  intro n
  induction n with
  | zero => intros; exact v_none
  | succ n ih => exact w_X9_sends_18b l E N _ ih
def f_X9_sends (N : Nat) (m0 : Mem) : Option (Mem × Int32) := bm (f_X9_hold N m0) (fun m1 _ => lm (up m1 111 16 0) (fun m2 => lm (up m2 111 22 0) (fun m3 => (f_X9_sends_18 N N m3 0 1))))
theorem c_X9_sends (l : Launch) (E : EnvT) (N : Nat) (m0 : Mem) : CT l E yX9_sends cX9_sends 4 (some .int) (rm_X9_sends) rvI (f_X9_sends N m0) [.ref (eAd E 111)] m0 := by
  refine CT.ofV (own := RX9) (by decide) rfl (Nat.le_of_ble_eq_true rfl) ?_
  show V l E RX9 cX9_sends 4 (some .int) (rm_X9_sends) 0 0 (Zm E) rvI _ m0 0 [(0, .ref (eAd E 111))] []
  unfold f_X9_sends
  refine v_aload_n dX9_sends_0 rfl 0 rfl ?_
  refine v_callVv (q := 111) (ci := 9) (C := RX9) (T := TX9) (NN := 24) (As := []) (rest := []) (c_X9_hold l E N m0) kv_X9_hold kc111 (by decide) rfl q929 ⟨rfl, rfl⟩ ⟨Nat.le_of_ble_eq_true rfl, Nat.le_of_ble_eq_true rfl⟩ ⟨Nat.zero_le _, Nat.zero_le _⟩ rfl rfl (Nat.le_of_ble_eq_true rfl) dX9_sends_1 (fun m1 _ => ?_)
  refine v_aload_n dX9_sends_4 rfl 0 rfl ?_
  refine v_iconst (v := 0) dX9_sends_5 rfl ?_
  refine pf_X9_at kc111 q838 dX9_sends_6 (fun m2 => ?_)
  refine v_aload_n dX9_sends_9 rfl 0 rfl ?_
  refine v_iconst (v := 0) dX9_sends_10 rfl ?_
  refine pf_X9_branch kc111 q844 dX9_sends_11 (fun m3 => ?_)
  refine v_iconst (v := 0) dX9_sends_14 rfl ?_
  refine v_istore_n (lv' := [(1, .int 0), (0, .ref (eAd E 111))]) dX9_sends_15 rfl (Nat.le_of_ble_eq_true rfl) rfl ?_
  refine v_iconst (v := 1) dX9_sends_16 rfl ?_
  refine v_istore_n (lv' := [(2, .int 1), (1, .int 0), (0, .ref (eAd E 111))]) dX9_sends_17 rfl (Nat.le_of_ble_eq_true rfl) rfl ?_
  refine v_sub [2, 1, 0] rfl ?_
  exact w_X9_sends_18 l E N N m3 0 1

def rm_X9_finds : Room := { frames := 7, cells := 0, slots := 0, locals := 154 }
def f_X9_finds (N : Nat) (m0 : Mem) : Option (Mem × Int32) := lm (up m0 111 16 0) (fun m1 => lm (up m1 111 10 0) (fun m2 => bm (f_X9_areWords N m2) (fun m3 r3 => if r3 = 0 then (some (m3, (-10001))) else (if (m3 111 16) = (m3 111 6) then (bm (f_X9_find N m3) (fun m4 r4 => some (m4, r4))) else (some (m3, (-10001)))))))
theorem c_X9_finds (l : Launch) (E : EnvT) (N : Nat) (m0 : Mem) : CT l E yX9_finds cX9_finds 1 (some .int) (rm_X9_finds) rvI (f_X9_finds N m0) [.ref (eAd E 111)] m0 := by
  refine CT.ofV (own := RX9) (by decide) rfl (Nat.le_of_ble_eq_true rfl) ?_
  show V l E RX9 cX9_finds 1 (some .int) (rm_X9_finds) 0 0 (Zm E) rvI _ m0 0 [(0, .ref (eAd E 111))] []
  unfold f_X9_finds
  refine v_aload_n dX9_finds_0 rfl 0 rfl ?_
  refine v_iconst (v := 0) dX9_finds_1 rfl ?_
  refine pf_X9_at kc111 q838 dX9_finds_2 (fun m1 => ?_)
  refine v_aload_n dX9_finds_5 rfl 0 rfl ?_
  refine v_iconst (v := 0) dX9_finds_6 rfl ?_
  refine pf_X9_words kc111 q832 dX9_finds_7 (fun m2 => ?_)
  refine v_aload_n dX9_finds_10 rfl 0 rfl ?_
  refine v_callVi (q := 111) (ci := 9) (C := RX9) (T := TX9) (NN := 24) (As := []) (rest := []) (c_X9_areWords l E N m2) kv_X9_areWords kc111 (by decide) rfl q999 ⟨rfl, rfl⟩ ⟨Nat.le_of_ble_eq_true rfl, Nat.le_of_ble_eq_true rfl⟩ ⟨Nat.zero_le _, Nat.zero_le _⟩ rfl rfl (Nat.le_of_ble_eq_true rfl) dX9_finds_11 (fun m3 r3 => ?_)
  refine v_if_eq (tgt := 35) dX9_finds_14 (by decide) ?_ ?_
  · refine v_sipush (v := (-10001)) dX9_finds_35 rfl ?_
    exact v_iret dX9_finds_38
  · refine v_aload_n dX9_finds_17 rfl 0 rfl ?_
    refine gf_X9_at kc111 q838 dX9_finds_18 ?_
    refine v_aload_n dX9_finds_21 rfl 0 rfl ?_
    refine gf_X9_typed kc111 q828 dX9_finds_22 ?_
    refine v_icmp_ne (tgt := 35) dX9_finds_25 (by decide) ?_ ?_
    · refine v_sipush (v := (-10001)) dX9_finds_35 rfl ?_
      exact v_iret dX9_finds_38
    · refine v_aload_n dX9_finds_28 rfl 0 rfl ?_
      refine v_callVi (q := 111) (ci := 9) (C := RX9) (T := TX9) (NN := 24) (As := []) (rest := []) (c_X9_find l E N m3) kv_X9_find kc111 (by decide) rfl q1027 ⟨rfl, rfl⟩ ⟨Nat.le_of_ble_eq_true rfl, Nat.le_of_ble_eq_true rfl⟩ ⟨Nat.zero_le _, Nat.zero_le _⟩ rfl rfl (Nat.le_of_ble_eq_true rfl) dX9_finds_29 (fun m4 r4 => ?_)
      refine v_goto (tgt := 38) dX9_finds_32 (by decide) ?_
      exact v_iret dX9_finds_38

def rm_X9_removeAt : Room := { frames := 0, cells := 0, slots := 0, locals := 0 }
def f_X9_removeAt_13b (N : Nat) (rec_13 : Mem → Int32 → Int32 → Int32 → Option (Mem × Unit)) (m0 : Mem) (x1 : Int32) (x2 : Int32) (x4 : Int32) : Option (Mem × Unit) := gd (inR x1 347) (if (m0 112 (ix x1)) ≤ x4 then (some (m0, ())) else (gd (inR ((x2 + x4) + 1) 347) (gd (inR (x2 + x4) 347) (lm (up m0 112 (ix (x2 + x4)) (m0 112 (ix ((x2 + x4) + 1)))) (fun m1 => (rec_13 m1 x1 x2 (x4 + 1)))))))
def f_X9_removeAt_13 (N : Nat) : Nat → Mem → Int32 → Int32 → Int32 → Option (Mem × Unit)
  | 0 => fun _ _ _ _ => none
  | n + 1 => f_X9_removeAt_13b N (f_X9_removeAt_13 N n)
theorem w_X9_removeAt_13b (l : Launch) (E : EnvT) (N : Nat) (rec_13 : Mem → Int32 → Int32 → Int32 → Option (Mem × Unit)) (hrec_13 : ∀ (m0 : Mem) (x1 : Int32) (x2 : Int32) (x4 : Int32), V l E RX9 cX9_removeAt 5 none (rm_X9_removeAt) 0 0 (Zm E) rvV (rec_13 m0 x1 x2 x4) m0 13 [(0, .ref (eAd E 111)), (1, .int x1), (2, .int x2), (4, .int x4)] []) (m0 : Mem) (x1 : Int32) (x2 : Int32) (x4 : Int32) : V l E RX9 cX9_removeAt 5 none (rm_X9_removeAt) 0 0 (Zm E) rvV (f_X9_removeAt_13b N rec_13 m0 x1 x2 x4) m0 13 [(0, .ref (eAd E 111)), (1, .int x1), (2, .int x2), (4, .int x4)] [] := by
  unfold f_X9_removeAt_13b
  refine v_iload dX9_removeAt_13 3 rfl ?_
  refine v_aload_n dX9_removeAt_15 rfl 0 rfl ?_
  refine gf_X9_now kc111 q822 dX9_removeAt_16 ?_
  refine v_iload_n dX9_removeAt_19 rfl 1 rfl ?_
  refine v_gd (fun g20 => ?_)
  refine v_iald kc112 rfl g20 dX9_removeAt_20 ?_
  refine v_icmp_ge (tgt := 50) dX9_removeAt_21 (by decide) ?_ ?_
  · exact v_vret dX9_removeAt_50
  · refine v_aload_n dX9_removeAt_24 rfl 0 rfl ?_
    refine gf_X9_now kc111 q822 dX9_removeAt_25 ?_
    refine v_iload_n dX9_removeAt_28 rfl 2 rfl ?_
    refine v_iload dX9_removeAt_29 3 rfl ?_
    refine v_iadd dX9_removeAt_31 ?_
    refine v_aload_n dX9_removeAt_32 rfl 0 rfl ?_
    refine gf_X9_now kc111 q822 dX9_removeAt_33 ?_
    refine v_iload_n dX9_removeAt_36 rfl 2 rfl ?_
    refine v_iload dX9_removeAt_37 3 rfl ?_
    refine v_iadd dX9_removeAt_39 ?_
    refine v_iconst (v := 1) dX9_removeAt_40 rfl ?_
    refine v_iadd dX9_removeAt_41 ?_
    refine v_gd (fun g42 => ?_)
    refine v_iald kc112 rfl g42 dX9_removeAt_42 ?_
    refine v_gd (fun g43 => ?_)
    refine v_iast kc112 rfl g43 dX9_removeAt_43 (fun m1 => ?_)
    refine v_iinc (v := (x4 + 1)) (lv' := [(4, .int (x4 + 1)), (0, .ref (eAd E 111)), (1, .int x1), (2, .int x2)]) dX9_removeAt_44 3 rfl rfl (Nat.le_of_ble_eq_true rfl) rfl ?_
    refine v_goto (tgt := 13) dX9_removeAt_47 (by decide) ?_
    refine v_sub [1, 2, 3, 0] rfl ?_
    exact hrec_13 m1 x1 x2 (x4 + 1)
theorem w_X9_removeAt_13 (l : Launch) (E : EnvT) (N : Nat) : ∀ (n : Nat) (m0 : Mem) (x1 : Int32) (x2 : Int32) (x4 : Int32), V l E RX9 cX9_removeAt 5 none (rm_X9_removeAt) 0 0 (Zm E) rvV (f_X9_removeAt_13 N n m0 x1 x2 x4) m0 13 [(0, .ref (eAd E 111)), (1, .int x1), (2, .int x2), (4, .int x4)] [] := by
  intro n
  induction n with
  | zero => intros; exact v_none
  | succ n ih => exact w_X9_removeAt_13b l E N _ ih
def f_X9_removeAt (N : Nat) (m0 : Mem) (x1 : Int32) (x2 : Int32) (x3 : Int32) : Option (Mem × Unit) := gd (inR x1 347) (gd (inR x1 347) (lm (up m0 112 (ix x1) ((m0 112 (ix x1)) - 1)) (fun m1 => (f_X9_removeAt_13 N N m1 x1 x2 x3))))
theorem c_X9_removeAt (l : Launch) (E : EnvT) (N : Nat) (m0 : Mem) (x1 : Int32) (x2 : Int32) (x3 : Int32) : CT l E yX9_removeAt cX9_removeAt 5 none (rm_X9_removeAt) rvV (f_X9_removeAt N m0 x1 x2 x3) [.ref (eAd E 111), .int x1, .int x2, .int x3] m0 := by
  refine CT.ofV (own := RX9) (by decide) rfl (Nat.le_of_ble_eq_true rfl) ?_
  show V l E RX9 cX9_removeAt 5 none (rm_X9_removeAt) 0 0 (Zm E) rvV _ m0 0 [(0, .ref (eAd E 111)), (1, .int x1), (2, .int x2), (3, .int x3)] []
  unfold f_X9_removeAt
  refine v_aload_n dX9_removeAt_0 rfl 0 rfl ?_
  refine gf_X9_now kc111 q822 dX9_removeAt_1 ?_
  refine v_iload_n dX9_removeAt_4 rfl 1 rfl ?_
  refine v_dup2 dX9_removeAt_5 rfl rfl ?_
  refine v_gd (fun g6 => ?_)
  refine v_iald kc112 rfl g6 dX9_removeAt_6 ?_
  refine v_iconst (v := 1) dX9_removeAt_7 rfl ?_
  refine v_isub dX9_removeAt_8 ?_
  refine v_gd (fun g9 => ?_)
  refine v_iast kc112 rfl g9 dX9_removeAt_9 (fun m1 => ?_)
  refine v_iload_n dX9_removeAt_10 rfl 3 rfl ?_
  refine v_istore (lv' := [(4, .int x3), (0, .ref (eAd E 111)), (1, .int x1), (2, .int x2), (3, .int x3)]) dX9_removeAt_11 (Nat.le_of_ble_eq_true rfl) rfl ?_
  refine v_sub [1, 2, 3, 0] rfl ?_
  exact w_X9_removeAt_13 l E N N m1 x1 x2 x3

def rm_X9_takeFirst : Room := { frames := 1, cells := 0, slots := 0, locals := 24 }
def f_X9_takeFirst (N : Nat) (m0 : Mem) (x1 : Int32) (x2 : Int32) : Option (Mem × Int32) := gd (inR x1 347) (if (m0 112 (ix x1)) = 0 then (bm (f_X9_refuses m0 (-10003)) (fun m4 r4 => some (m4, r4))) else (bm (f_X9_hold N m0) (fun m1 _ => gd (inR x2 347) (bm (f_X9_removeAt N m1 x1 x2 0) (fun m2 _ => bm (f_X9_push N m2) (fun m3 _ => some (m3, (m1 112 (ix x2)))))))))
theorem c_X9_takeFirst (l : Launch) (E : EnvT) (N : Nat) (m0 : Mem) (x1 : Int32) (x2 : Int32) : CT l E yX9_takeFirst cX9_takeFirst 4 (some .int) (rm_X9_takeFirst) rvI (f_X9_takeFirst N m0 x1 x2) [.ref (eAd E 111), .int x1, .int x2] m0 := by
  refine CT.ofV (own := RX9) (by decide) rfl (Nat.le_of_ble_eq_true rfl) ?_
  show V l E RX9 cX9_takeFirst 4 (some .int) (rm_X9_takeFirst) 0 0 (Zm E) rvI _ m0 0 [(0, .ref (eAd E 111)), (1, .int x1), (2, .int x2)] []
  unfold f_X9_takeFirst
  refine v_aload_n dX9_takeFirst_0 rfl 0 rfl ?_
  refine gf_X9_now kc111 q822 dX9_takeFirst_1 ?_
  refine v_iload_n dX9_takeFirst_4 rfl 1 rfl ?_
  refine v_gd (fun g5 => ?_)
  refine v_iald kc112 rfl g5 dX9_takeFirst_5 ?_
  refine v_if_ne (tgt := 17) dX9_takeFirst_6 (by decide) ?_ ?_
  · refine v_aload_n dX9_takeFirst_17 rfl 0 rfl ?_
    refine v_callVv (q := 111) (ci := 9) (C := RX9) (T := TX9) (NN := 24) (As := []) (rest := []) (c_X9_hold l E N m0) kv_X9_hold kc111 (by decide) rfl q929 ⟨rfl, rfl⟩ ⟨Nat.le_of_ble_eq_true rfl, Nat.le_of_ble_eq_true rfl⟩ ⟨Nat.zero_le _, Nat.zero_le _⟩ rfl rfl (Nat.le_of_ble_eq_true rfl) dX9_takeFirst_18 (fun m1 _ => ?_)
    refine v_aload_n dX9_takeFirst_21 rfl 0 rfl ?_
    refine gf_X9_now kc111 q822 dX9_takeFirst_22 ?_
    refine v_iload_n dX9_takeFirst_25 rfl 2 rfl ?_
    refine v_gd (fun g26 => ?_)
    refine v_iald kc112 rfl g26 dX9_takeFirst_26 ?_
    refine v_istore_n (lv' := [(3, .int (m1 112 (ix x2))), (0, .ref (eAd E 111)), (1, .int x1), (2, .int x2)]) dX9_takeFirst_27 rfl (Nat.le_of_ble_eq_true rfl) rfl ?_
    refine v_aload_n dX9_takeFirst_28 rfl 1 rfl ?_
    refine v_iload_n dX9_takeFirst_29 rfl 2 rfl ?_
    refine v_iload_n dX9_takeFirst_30 rfl 3 rfl ?_
    refine v_iconst (v := 0) dX9_takeFirst_31 rfl ?_
    refine v_callVv (q := 111) (ci := 9) (C := RX9) (T := TX9) (NN := 24) (As := [.int x1, .int x2, .int 0]) (rest := []) (c_X9_removeAt l E N m1 x1 x2 0) kv_X9_removeAt kc111 (by decide) rfl q1087 ⟨rfl, rfl⟩ ⟨Nat.le_of_ble_eq_true rfl, Nat.le_of_ble_eq_true rfl⟩ ⟨Nat.zero_le _, Nat.zero_le _⟩ rfl rfl (Nat.le_of_ble_eq_true rfl) dX9_takeFirst_32 (fun m2 _ => ?_)
    refine v_aload_n dX9_takeFirst_35 rfl 1 rfl ?_
    refine v_callVv (q := 111) (ci := 9) (C := RX9) (T := TX9) (NN := 24) (As := []) (rest := []) (c_X9_push l E N m2) kv_X9_push kc111 (by decide) rfl q940 ⟨rfl, rfl⟩ ⟨Nat.le_of_ble_eq_true rfl, Nat.le_of_ble_eq_true rfl⟩ ⟨Nat.zero_le _, Nat.zero_le _⟩ rfl rfl (Nat.le_of_ble_eq_true rfl) dX9_takeFirst_36 (fun m3 _ => ?_)
    refine v_iload_n dX9_takeFirst_39 rfl 0 rfl ?_
    exact v_iret dX9_takeFirst_40
  · refine v_aload_n dX9_takeFirst_9 rfl 0 rfl ?_
    refine v_sipush (v := (-10003)) dX9_takeFirst_10 rfl ?_
    refine v_callVi (q := 111) (ci := 9) (C := RX9) (T := TX9) (NN := 24) (As := [.int (-10003)]) (rest := []) (c_X9_refuses l E m0 (-10003)) kv_X9_refuses kc111 (by decide) rfl q900 ⟨rfl, rfl⟩ ⟨Nat.le_of_ble_eq_true rfl, Nat.le_of_ble_eq_true rfl⟩ ⟨Nat.zero_le _, Nat.zero_le _⟩ rfl rfl (Nat.le_of_ble_eq_true rfl) dX9_takeFirst_13 (fun m4 r4 => ?_)
    exact v_iret dX9_takeFirst_16

def rm_X9_answer : Room := { frames := 2, cells := 0, slots := 0, locals := 47 }
def f_X9_answer (N : Nat) (m0 : Mem) : Option (Mem × Int32) := bm (f_X9_takeFirst N m0 11 17) (fun m1 r1 => some (m1, r1))
theorem c_X9_answer (l : Launch) (E : EnvT) (N : Nat) (m0 : Mem) : CT l E yX9_answer cX9_answer 1 (some .int) (rm_X9_answer) rvI (f_X9_answer N m0) [.ref (eAd E 111)] m0 := by
  refine CT.ofV (own := RX9) (by decide) rfl (Nat.le_of_ble_eq_true rfl) ?_
  show V l E RX9 cX9_answer 1 (some .int) (rm_X9_answer) 0 0 (Zm E) rvI _ m0 0 [(0, .ref (eAd E 111))] []
  unfold f_X9_answer
  refine v_aload_n dX9_answer_0 rfl 0 rfl ?_
  refine v_bipush (v := 11) dX9_answer_1 rfl ?_
  refine v_bipush (v := 17) dX9_answer_3 rfl ?_
  refine v_callVi (q := 111) (ci := 9) (C := RX9) (T := TX9) (NN := 24) (As := [.int 11, .int 17]) (rest := []) (c_X9_takeFirst l E N m0 11 17) kv_X9_takeFirst kc111 (by decide) rfl q1083 ⟨rfl, rfl⟩ ⟨Nat.le_of_ble_eq_true rfl, Nat.le_of_ble_eq_true rfl⟩ ⟨Nat.zero_le _, Nat.zero_le _⟩ rfl rfl (Nat.le_of_ble_eq_true rfl) dX9_answer_5 (fun m1 r1 => ?_)
  exact v_iret dX9_answer_8

def rm_X9_fault : Room := { frames := 2, cells := 0, slots := 0, locals := 47 }
def f_X9_fault (N : Nat) (m0 : Mem) : Option (Mem × Int32) := bm (f_X9_takeFirst N m0 12 23) (fun m1 r1 => some (m1, r1))
theorem c_X9_fault (l : Launch) (E : EnvT) (N : Nat) (m0 : Mem) : CT l E yX9_fault cX9_fault 1 (some .int) (rm_X9_fault) rvI (f_X9_fault N m0) [.ref (eAd E 111)] m0 := by
  refine CT.ofV (own := RX9) (by decide) rfl (Nat.le_of_ble_eq_true rfl) ?_
  show V l E RX9 cX9_fault 1 (some .int) (rm_X9_fault) 0 0 (Zm E) rvI _ m0 0 [(0, .ref (eAd E 111))] []
  unfold f_X9_fault
  refine v_aload_n dX9_fault_0 rfl 0 rfl ?_
  refine v_bipush (v := 12) dX9_fault_1 rfl ?_
  refine v_bipush (v := 23) dX9_fault_3 rfl ?_
  refine v_callVi (q := 111) (ci := 9) (C := RX9) (T := TX9) (NN := 24) (As := [.int 12, .int 23]) (rest := []) (c_X9_takeFirst l E N m0 12 23) kv_X9_takeFirst kc111 (by decide) rfl q1083 ⟨rfl, rfl⟩ ⟨Nat.le_of_ble_eq_true rfl, Nat.le_of_ble_eq_true rfl⟩ ⟨Nat.zero_le _, Nat.zero_le _⟩ rfl rfl (Nat.le_of_ble_eq_true rfl) dX9_fault_5 (fun m1 r1 => ?_)
  exact v_iret dX9_fault_8

def rm_X9_condition : Room := { frames := 1, cells := 0, slots := 0, locals := 22 }
def f_X9_condition_18 (N : Nat) (m0 : Mem) : Option (Mem × Int32) := bm (f_X9_refuses m0 (-10002)) (fun m1 r1 => some (m1, r1))
theorem w_X9_condition_18 (l : Launch) (E : EnvT) (N : Nat) (m0 : Mem) : V l E RX9 cX9_condition 4 (some .int) (rm_X9_condition) 0 0 (Zm E) rvI (f_X9_condition_18 N m0) m0 18 [(0, .ref (eAd E 111))] [] := by
  unfold f_X9_condition_18
  refine v_aload_n dX9_condition_18 rfl 0 rfl ?_
  refine v_sipush (v := (-10002)) dX9_condition_19 rfl ?_
  refine v_callVi (q := 111) (ci := 9) (C := RX9) (T := TX9) (NN := 24) (As := [.int (-10002)]) (rest := []) (c_X9_refuses l E m0 (-10002)) kv_X9_refuses kc111 (by decide) rfl q900 ⟨rfl, rfl⟩ ⟨Nat.le_of_ble_eq_true rfl, Nat.le_of_ble_eq_true rfl⟩ ⟨Nat.zero_le _, Nat.zero_le _⟩ rfl rfl (Nat.le_of_ble_eq_true rfl) dX9_condition_22 (fun m1 r1 => ?_)
  exact v_iret dX9_condition_25
def f_X9_condition_88 (N : Nat) (m0 : Mem) (x3 : Int32) : Option (Mem × Int32) := bm (f_X9_push N m0) (fun m1 _ => some (m1, x3))
theorem w_X9_condition_88 (l : Launch) (E : EnvT) (N : Nat) (m0 : Mem) (x3 : Int32) : V l E RX9 cX9_condition 4 (some .int) (rm_X9_condition) 0 0 (Zm E) rvI (f_X9_condition_88 N m0 x3) m0 88 [(0, .ref (eAd E 111)), (3, .int x3)] [] := by
  unfold f_X9_condition_88
  refine v_aload_n dX9_condition_88 rfl 0 rfl ?_
  refine v_callVv (q := 111) (ci := 9) (C := RX9) (T := TX9) (NN := 24) (As := []) (rest := []) (c_X9_push l E N m0) kv_X9_push kc111 (by decide) rfl q940 ⟨rfl, rfl⟩ ⟨Nat.le_of_ble_eq_true rfl, Nat.le_of_ble_eq_true rfl⟩ ⟨Nat.zero_le _, Nat.zero_le _⟩ rfl rfl (Nat.le_of_ble_eq_true rfl) dX9_condition_89 (fun m1 _ => ?_)
  refine v_iload_n dX9_condition_92 rfl 1 rfl ?_
  exact v_iret dX9_condition_93
def f_X9_condition_81 (N : Nat) (m0 : Mem) (x1 : Int32) (x3 : Int32) (s1 : Int32) (s2 : Int32) (s4 : Int32) : Option (Mem × Int32) := gd (inR s4 347) (gd (inR s1 347) (lm (up m0 112 (ix s1) (s2 ||| ((m0 112 (ix s4)) &&& (1 <<< (x1 &&& 31))))) (fun m1 => (f_X9_condition_88 N m1 x3))))
theorem w_X9_condition_81 (l : Launch) (E : EnvT) (N : Nat) (m0 : Mem) (x1 : Int32) (x3 : Int32) (s1 : Int32) (s2 : Int32) (s4 : Int32) : V l E RX9 cX9_condition 4 (some .int) (rm_X9_condition) 0 0 (Zm E) rvI (f_X9_condition_81 N m0 x1 x3 s1 s2 s4) m0 81 [(0, .ref (eAd E 111)), (1, .int x1), (3, .int x3)] [.int s4, .ref (eAd E 112), .int s2, .int s1, .ref (eAd E 112)] := by
  unfold f_X9_condition_81
  refine v_gd (fun g81 => ?_)
  refine v_iald kc112 rfl g81 dX9_condition_81 ?_
  refine v_iconst (v := 1) dX9_condition_82 rfl ?_
  refine v_iload_n dX9_condition_83 rfl 1 rfl ?_
  refine v_ishl dX9_condition_84 ?_
  refine v_iand dX9_condition_85 ?_
  refine v_ior dX9_condition_86 ?_
  refine v_gd (fun g87 => ?_)
  refine v_iast kc112 rfl g87 dX9_condition_87 (fun m1 => ?_)
  refine v_sub [0, 2] rfl ?_
  exact w_X9_condition_88 l E N m1 x3
def f_X9_condition (N : Nat) (m0 : Mem) (x1 : Int32) (x2 : Int32) : Option (Mem × Int32) := bm (f_X9_in m0 x1 0 3) (fun m1 r1 => if r1 = 0 then (f_X9_condition_18 N m1) else (bm (f_X9_in m1 x2 0 1) (fun m2 r2 => if r2 = 0 then (f_X9_condition_18 N m2) else (bm (f_X9_hold N m2) (fun m3 _ => gd (inR 4 347) (if (((m3 112 (ix 4)) >>> (x1 &&& 31)) &&& 1) = x2 then (f_X9_condition_88 N m3 (((m3 112 (ix 4)) >>> (x1 &&& 31)) &&& 1)) else (gd (inR 4 347) (gd (inR 4 347) (lm (up m3 112 (ix 4) ((m3 112 (ix 4)) ^^^ (1 <<< (x1 &&& 31)))) (fun m4 => gd (inR 5 347) (if x2 = 1 then (f_X9_condition_81 N m4 x1 (((m3 112 (ix 4)) >>> (x1 &&& 31)) &&& 1) 5 (m4 112 (ix 5)) 6) else (f_X9_condition_81 N m4 x1 (((m3 112 (ix 4)) >>> (x1 &&& 31)) &&& 1) 5 (m4 112 (ix 5)) 7))))))))))))
theorem c_X9_condition (l : Launch) (E : EnvT) (N : Nat) (m0 : Mem) (x1 : Int32) (x2 : Int32) : CT l E yX9_condition cX9_condition 4 (some .int) (rm_X9_condition) rvI (f_X9_condition N m0 x1 x2) [.ref (eAd E 111), .int x1, .int x2] m0 := by
  refine CT.ofV (own := RX9) (by decide) rfl (Nat.le_of_ble_eq_true rfl) ?_
  show V l E RX9 cX9_condition 4 (some .int) (rm_X9_condition) 0 0 (Zm E) rvI _ m0 0 [(0, .ref (eAd E 111)), (1, .int x1), (2, .int x2)] []
  unfold f_X9_condition
  refine v_iload_n dX9_condition_0 rfl 1 rfl ?_
  refine v_iconst (v := 0) dX9_condition_1 rfl ?_
  refine v_iconst (v := 3) dX9_condition_2 rfl ?_
  refine v_callSi (As := [.int x1, .int 0, .int 3]) (rest := []) (c_X9_in l E m0 x1 0 3) ks_X9_in q912 ⟨rfl, rfl⟩ ⟨Nat.le_of_ble_eq_true rfl, Nat.le_of_ble_eq_true rfl⟩ ⟨Nat.zero_le _, Nat.zero_le _⟩ rfl rfl (Nat.le_of_ble_eq_true rfl) dX9_condition_3 (fun m1 r1 => ?_)
  refine v_if_eq (tgt := 18) dX9_condition_6 (by decide) ?_ ?_
  · refine v_sub [0] rfl ?_
    exact w_X9_condition_18 l E N m1
  · refine v_iload_n dX9_condition_9 rfl 2 rfl ?_
    refine v_iconst (v := 0) dX9_condition_10 rfl ?_
    refine v_iconst (v := 1) dX9_condition_11 rfl ?_
    refine v_callSi (As := [.int x2, .int 0, .int 1]) (rest := []) (c_X9_in l E m1 x2 0 1) ks_X9_in q912 ⟨rfl, rfl⟩ ⟨Nat.le_of_ble_eq_true rfl, Nat.le_of_ble_eq_true rfl⟩ ⟨Nat.zero_le _, Nat.zero_le _⟩ rfl rfl (Nat.le_of_ble_eq_true rfl) dX9_condition_12 (fun m2 r2 => ?_)
    refine v_if_ne (tgt := 26) dX9_condition_15 (by decide) ?_ ?_
    · refine v_aload_n dX9_condition_26 rfl 0 rfl ?_
      refine v_callVv (q := 111) (ci := 9) (C := RX9) (T := TX9) (NN := 24) (As := []) (rest := []) (c_X9_hold l E N m2) kv_X9_hold kc111 (by decide) rfl q929 ⟨rfl, rfl⟩ ⟨Nat.le_of_ble_eq_true rfl, Nat.le_of_ble_eq_true rfl⟩ ⟨Nat.zero_le _, Nat.zero_le _⟩ rfl rfl (Nat.le_of_ble_eq_true rfl) dX9_condition_27 (fun m3 _ => ?_)
      refine v_aload_n dX9_condition_30 rfl 0 rfl ?_
      refine gf_X9_now kc111 q822 dX9_condition_31 ?_
      refine v_iconst (v := 4) dX9_condition_34 rfl ?_
      refine v_gd (fun g35 => ?_)
      refine v_iald kc112 rfl g35 dX9_condition_35 ?_
      refine v_iload_n dX9_condition_36 rfl 1 rfl ?_
      refine v_ishr dX9_condition_37 ?_
      refine v_iconst (v := 1) dX9_condition_38 rfl ?_
      refine v_iand dX9_condition_39 ?_
      refine v_istore_n (lv' := [(3, .int (((m3 112 (ix 4)) >>> (x1 &&& 31)) &&& 1)), (0, .ref (eAd E 111)), (1, .int x1), (2, .int x2)]) dX9_condition_40 rfl (Nat.le_of_ble_eq_true rfl) rfl ?_
      refine v_iload_n dX9_condition_41 rfl 0 rfl ?_
      refine v_iload_n dX9_condition_42 rfl 3 rfl ?_
      refine v_icmp_eq (tgt := 88) dX9_condition_43 (by decide) ?_ ?_
      · refine v_sub [1, 0] rfl ?_
        exact w_X9_condition_88 l E N m3 (((m3 112 (ix 4)) >>> (x1 &&& 31)) &&& 1)
      · refine v_aload_n dX9_condition_46 rfl 1 rfl ?_
        refine gf_X9_now kc111 q822 dX9_condition_47 ?_
        refine v_iconst (v := 4) dX9_condition_50 rfl ?_
        refine v_dup2 dX9_condition_51 rfl rfl ?_
        refine v_gd (fun g52 => ?_)
        refine v_iald kc112 rfl g52 dX9_condition_52 ?_
        refine v_iconst (v := 1) dX9_condition_53 rfl ?_
        refine v_iload_n dX9_condition_54 rfl 2 rfl ?_
        refine v_ishl dX9_condition_55 ?_
        refine v_ixor dX9_condition_56 ?_
        refine v_gd (fun g57 => ?_)
        refine v_iast kc112 rfl g57 dX9_condition_57 (fun m4 => ?_)
        refine v_aload_n dX9_condition_58 rfl 1 rfl ?_
        refine gf_X9_now kc111 q822 dX9_condition_59 ?_
        refine v_iconst (v := 5) dX9_condition_62 rfl ?_
        refine v_dup2 dX9_condition_63 rfl rfl ?_
        refine v_gd (fun g64 => ?_)
        refine v_iald kc112 rfl g64 dX9_condition_64 ?_
        refine v_aload_n dX9_condition_65 rfl 1 rfl ?_
        refine gf_X9_now kc111 q822 dX9_condition_66 ?_
        refine v_iload_n dX9_condition_69 rfl 3 rfl ?_
        refine v_iconst (v := 1) dX9_condition_70 rfl ?_
        refine v_icmp_ne (tgt := 79) dX9_condition_71 (by decide) ?_ ?_
        · refine v_bipush (v := 7) dX9_condition_79 rfl ?_
          refine v_sub [1, 2, 0] rfl ?_
          exact w_X9_condition_81 l E N m4 x1 (((m3 112 (ix 4)) >>> (x1 &&& 31)) &&& 1) 5 (m4 112 (ix 5)) 7
        · refine v_bipush (v := 6) dX9_condition_74 rfl ?_
          refine v_goto (tgt := 81) dX9_condition_76 (by decide) ?_
          refine v_sub [1, 2, 0] rfl ?_
          exact w_X9_condition_81 l E N m4 x1 (((m3 112 (ix 4)) >>> (x1 &&& 31)) &&& 1) 5 (m4 112 (ix 5)) 6
    · refine v_sub [0] rfl ?_
      exact w_X9_condition_18 l E N m2

def rm_X9_masks : Room := { frames := 1, cells := 0, slots := 0, locals := 22 }
def f_X9_masks_19 (N : Nat) (m0 : Mem) : Option (Mem × Int32) := bm (f_X9_refuses m0 (-10002)) (fun m1 r1 => some (m1, r1))
theorem w_X9_masks_19 (l : Launch) (E : EnvT) (N : Nat) (m0 : Mem) : V l E RX9 cX9_masks 4 (some .int) (rm_X9_masks) 0 0 (Zm E) rvI (f_X9_masks_19 N m0) m0 19 [(0, .ref (eAd E 111))] [] := by
  unfold f_X9_masks_19
  refine v_aload_n dX9_masks_19 rfl 0 rfl ?_
  refine v_sipush (v := (-10002)) dX9_masks_20 rfl ?_
  refine v_callVi (q := 111) (ci := 9) (C := RX9) (T := TX9) (NN := 24) (As := [.int (-10002)]) (rest := []) (c_X9_refuses l E m0 (-10002)) kv_X9_refuses kc111 (by decide) rfl q900 ⟨rfl, rfl⟩ ⟨Nat.le_of_ble_eq_true rfl, Nat.le_of_ble_eq_true rfl⟩ ⟨Nat.zero_le _, Nat.zero_le _⟩ rfl rfl (Nat.le_of_ble_eq_true rfl) dX9_masks_23 (fun m1 r1 => ?_)
  exact v_iret dX9_masks_26
def f_X9_masks (N : Nat) (m0 : Mem) (x1 : Int32) (x2 : Int32) : Option (Mem × Int32) := bm (f_X9_in m0 x1 0 2) (fun m1 r1 => if r1 = 0 then (f_X9_masks_19 N m1) else (bm (f_X9_in m1 x2 0 15) (fun m2 r2 => if r2 = 0 then (f_X9_masks_19 N m2) else (bm (f_X9_hold N m2) (fun m3 _ => gd (inR (6 + x1) 347) (gd (inR (6 + x1) 347) (lm (up m3 112 (ix (6 + x1)) x2) (fun m4 => bm (f_X9_push N m4) (fun m5 _ => some (m5, (m3 112 (ix (6 + x1)))))))))))))
theorem c_X9_masks (l : Launch) (E : EnvT) (N : Nat) (m0 : Mem) (x1 : Int32) (x2 : Int32) : CT l E yX9_masks cX9_masks 4 (some .int) (rm_X9_masks) rvI (f_X9_masks N m0 x1 x2) [.ref (eAd E 111), .int x1, .int x2] m0 := by
  refine CT.ofV (own := RX9) (by decide) rfl (Nat.le_of_ble_eq_true rfl) ?_
  show V l E RX9 cX9_masks 4 (some .int) (rm_X9_masks) 0 0 (Zm E) rvI _ m0 0 [(0, .ref (eAd E 111)), (1, .int x1), (2, .int x2)] []
  unfold f_X9_masks
  refine v_iload_n dX9_masks_0 rfl 1 rfl ?_
  refine v_iconst (v := 0) dX9_masks_1 rfl ?_
  refine v_iconst (v := 2) dX9_masks_2 rfl ?_
  refine v_callSi (As := [.int x1, .int 0, .int 2]) (rest := []) (c_X9_in l E m0 x1 0 2) ks_X9_in q912 ⟨rfl, rfl⟩ ⟨Nat.le_of_ble_eq_true rfl, Nat.le_of_ble_eq_true rfl⟩ ⟨Nat.zero_le _, Nat.zero_le _⟩ rfl rfl (Nat.le_of_ble_eq_true rfl) dX9_masks_3 (fun m1 r1 => ?_)
  refine v_if_eq (tgt := 19) dX9_masks_6 (by decide) ?_ ?_
  · refine v_sub [0] rfl ?_
    exact w_X9_masks_19 l E N m1
  · refine v_iload_n dX9_masks_9 rfl 2 rfl ?_
    refine v_iconst (v := 0) dX9_masks_10 rfl ?_
    refine v_bipush (v := 15) dX9_masks_11 rfl ?_
    refine v_callSi (As := [.int x2, .int 0, .int 15]) (rest := []) (c_X9_in l E m1 x2 0 15) ks_X9_in q912 ⟨rfl, rfl⟩ ⟨Nat.le_of_ble_eq_true rfl, Nat.le_of_ble_eq_true rfl⟩ ⟨Nat.zero_le _, Nat.zero_le _⟩ rfl rfl (Nat.le_of_ble_eq_true rfl) dX9_masks_13 (fun m2 r2 => ?_)
    refine v_if_ne (tgt := 27) dX9_masks_16 (by decide) ?_ ?_
    · refine v_aload_n dX9_masks_27 rfl 0 rfl ?_
      refine v_callVv (q := 111) (ci := 9) (C := RX9) (T := TX9) (NN := 24) (As := []) (rest := []) (c_X9_hold l E N m2) kv_X9_hold kc111 (by decide) rfl q929 ⟨rfl, rfl⟩ ⟨Nat.le_of_ble_eq_true rfl, Nat.le_of_ble_eq_true rfl⟩ ⟨Nat.zero_le _, Nat.zero_le _⟩ rfl rfl (Nat.le_of_ble_eq_true rfl) dX9_masks_28 (fun m3 _ => ?_)
      refine v_aload_n dX9_masks_31 rfl 0 rfl ?_
      refine gf_X9_now kc111 q822 dX9_masks_32 ?_
      refine v_bipush (v := 6) dX9_masks_35 rfl ?_
      refine v_iload_n dX9_masks_37 rfl 1 rfl ?_
      refine v_iadd dX9_masks_38 ?_
      refine v_gd (fun g39 => ?_)
      refine v_iald kc112 rfl g39 dX9_masks_39 ?_
      refine v_istore_n (lv' := [(3, .int (m3 112 (ix (6 + x1)))), (0, .ref (eAd E 111)), (1, .int x1), (2, .int x2)]) dX9_masks_40 rfl (Nat.le_of_ble_eq_true rfl) rfl ?_
      refine v_aload_n dX9_masks_41 rfl 1 rfl ?_
      refine gf_X9_now kc111 q822 dX9_masks_42 ?_
      refine v_bipush (v := 6) dX9_masks_45 rfl ?_
      refine v_iload_n dX9_masks_47 rfl 2 rfl ?_
      refine v_iadd dX9_masks_48 ?_
      refine v_iload_n dX9_masks_49 rfl 3 rfl ?_
      refine v_gd (fun g50 => ?_)
      refine v_iast kc112 rfl g50 dX9_masks_50 (fun m4 => ?_)
      refine v_aload_n dX9_masks_51 rfl 1 rfl ?_
      refine v_callVv (q := 111) (ci := 9) (C := RX9) (T := TX9) (NN := 24) (As := []) (rest := []) (c_X9_push l E N m4) kv_X9_push kc111 (by decide) rfl q940 ⟨rfl, rfl⟩ ⟨Nat.le_of_ble_eq_true rfl, Nat.le_of_ble_eq_true rfl⟩ ⟨Nat.zero_le _, Nat.zero_le _⟩ rfl rfl (Nat.le_of_ble_eq_true rfl) dX9_masks_52 (fun m5 _ => ?_)
      refine v_iload_n dX9_masks_55 rfl 0 rfl ?_
      exact v_iret dX9_masks_56
    · refine v_sub [0] rfl ?_
      exact w_X9_masks_19 l E N m2

def rm_X9_edges : Room := { frames := 1, cells := 0, slots := 0, locals := 21 }
def f_X9_edges (N : Nat) (m0 : Mem) : Option (Mem × Int32) := bm (f_X9_hold N m0) (fun m1 _ => gd (inR 5 347) (gd (inR 5 347) (lm (up m1 112 (ix 5) 0) (fun m2 => bm (f_X9_push N m2) (fun m3 _ => some (m3, (m1 112 (ix 5))))))))
theorem c_X9_edges (l : Launch) (E : EnvT) (N : Nat) (m0 : Mem) : CT l E yX9_edges cX9_edges 2 (some .int) (rm_X9_edges) rvI (f_X9_edges N m0) [.ref (eAd E 111)] m0 := by
  refine CT.ofV (own := RX9) (by decide) rfl (Nat.le_of_ble_eq_true rfl) ?_
  show V l E RX9 cX9_edges 2 (some .int) (rm_X9_edges) 0 0 (Zm E) rvI _ m0 0 [(0, .ref (eAd E 111))] []
  unfold f_X9_edges
  refine v_aload_n dX9_edges_0 rfl 0 rfl ?_
  refine v_callVv (q := 111) (ci := 9) (C := RX9) (T := TX9) (NN := 24) (As := []) (rest := []) (c_X9_hold l E N m0) kv_X9_hold kc111 (by decide) rfl q929 ⟨rfl, rfl⟩ ⟨Nat.le_of_ble_eq_true rfl, Nat.le_of_ble_eq_true rfl⟩ ⟨Nat.zero_le _, Nat.zero_le _⟩ rfl rfl (Nat.le_of_ble_eq_true rfl) dX9_edges_1 (fun m1 _ => ?_)
  refine v_aload_n dX9_edges_4 rfl 0 rfl ?_
  refine gf_X9_now kc111 q822 dX9_edges_5 ?_
  refine v_iconst (v := 5) dX9_edges_8 rfl ?_
  refine v_gd (fun g9 => ?_)
  refine v_iald kc112 rfl g9 dX9_edges_9 ?_
  refine v_istore_n (lv' := [(1, .int (m1 112 (ix 5))), (0, .ref (eAd E 111))]) dX9_edges_10 rfl (Nat.le_of_ble_eq_true rfl) rfl ?_
  refine v_aload_n dX9_edges_11 rfl 1 rfl ?_
  refine gf_X9_now kc111 q822 dX9_edges_12 ?_
  refine v_iconst (v := 5) dX9_edges_15 rfl ?_
  refine v_iconst (v := 0) dX9_edges_16 rfl ?_
  refine v_gd (fun g17 => ?_)
  refine v_iast kc112 rfl g17 dX9_edges_17 (fun m2 => ?_)
  refine v_aload_n dX9_edges_18 rfl 1 rfl ?_
  refine v_callVv (q := 111) (ci := 9) (C := RX9) (T := TX9) (NN := 24) (As := []) (rest := []) (c_X9_push l E N m2) kv_X9_push kc111 (by decide) rfl q940 ⟨rfl, rfl⟩ ⟨Nat.le_of_ble_eq_true rfl, Nat.le_of_ble_eq_true rfl⟩ ⟨Nat.zero_le _, Nat.zero_le _⟩ rfl rfl (Nat.le_of_ble_eq_true rfl) dX9_edges_19 (fun m3 _ => ?_)
  refine v_iload_n dX9_edges_22 rfl 0 rfl ?_
  exact v_iret dX9_edges_23

def rm_X9_finishes : Room := { frames := 1, cells := 0, slots := 0, locals := 24 }
def f_X9_finishes_77 (N : Nat) (m0 : Mem) : Option (Mem × Int32) := bm (f_X9_push N m0) (fun m1 _ => gd (inR 9 347) (some (m1, (m1 112 (ix 9)))))
theorem w_X9_finishes_77 (l : Launch) (E : EnvT) (N : Nat) (m0 : Mem) : V l E RX9 cX9_finishes 2 (some .int) (rm_X9_finishes) 0 0 (Zm E) rvI (f_X9_finishes_77 N m0) m0 77 [(0, .ref (eAd E 111))] [] := by
  unfold f_X9_finishes_77
  refine v_aload_n dX9_finishes_77 rfl 0 rfl ?_
  refine v_callVv (q := 111) (ci := 9) (C := RX9) (T := TX9) (NN := 24) (As := []) (rest := []) (c_X9_push l E N m0) kv_X9_push kc111 (by decide) rfl q940 ⟨rfl, rfl⟩ ⟨Nat.le_of_ble_eq_true rfl, Nat.le_of_ble_eq_true rfl⟩ ⟨Nat.zero_le _, Nat.zero_le _⟩ rfl rfl (Nat.le_of_ble_eq_true rfl) dX9_finishes_78 (fun m1 _ => ?_)
  refine v_aload_n dX9_finishes_81 rfl 0 rfl ?_
  refine gf_X9_now kc111 q822 dX9_finishes_82 ?_
  refine v_bipush (v := 9) dX9_finishes_85 rfl ?_
  refine v_gd (fun g87 => ?_)
  refine v_iald kc112 rfl g87 dX9_finishes_87 ?_
  exact v_iret dX9_finishes_88
def f_X9_finishes (N : Nat) (m0 : Mem) (x1 : Int32) : Option (Mem × Int32) := gd (inR 9 347) (bm (f_X9_in m0 x1 0 ((m0 112 (ix 9)) - 1)) (fun m1 r1 => if r1 = 0 then (bm (f_X9_refuses m1 (-10002)) (fun m6 r6 => some (m6, r6))) else (bm (f_X9_hold N m1) (fun m2 _ => bm (f_X9_removeAt N m2 9 13 x1) (fun m3 _ => gd (inR 9 347) (if (m3 112 (ix 9)) = 0 then (gd (inR 10 347) (if (m3 112 (ix 10)) = 1 then (gd (inR 1 347) (gd (inR 1 347) (lm (up m3 112 (ix 1) ((m3 112 (ix 1)) ||| 1)) (fun m4 => gd (inR 10 347) (lm (up m4 112 (ix 10) 0) (fun m5 => (f_X9_finishes_77 N m5))))))) else (f_X9_finishes_77 N m3))) else (f_X9_finishes_77 N m3)))))))
theorem c_X9_finishes (l : Launch) (E : EnvT) (N : Nat) (m0 : Mem) (x1 : Int32) : CT l E yX9_finishes cX9_finishes 2 (some .int) (rm_X9_finishes) rvI (f_X9_finishes N m0 x1) [.ref (eAd E 111), .int x1] m0 := by
  refine CT.ofV (own := RX9) (by decide) rfl (Nat.le_of_ble_eq_true rfl) ?_
  show V l E RX9 cX9_finishes 2 (some .int) (rm_X9_finishes) 0 0 (Zm E) rvI _ m0 0 [(0, .ref (eAd E 111)), (1, .int x1)] []
  unfold f_X9_finishes
  refine v_iload_n dX9_finishes_0 rfl 1 rfl ?_
  refine v_iconst (v := 0) dX9_finishes_1 rfl ?_
  refine v_aload_n dX9_finishes_2 rfl 0 rfl ?_
  refine gf_X9_now kc111 q822 dX9_finishes_3 ?_
  refine v_bipush (v := 9) dX9_finishes_6 rfl ?_
  refine v_gd (fun g8 => ?_)
  refine v_iald kc112 rfl g8 dX9_finishes_8 ?_
  refine v_iconst (v := 1) dX9_finishes_9 rfl ?_
  refine v_isub dX9_finishes_10 ?_
  refine v_callSi (As := [.int x1, .int 0, .int ((m0 112 (ix 9)) - 1)]) (rest := []) (c_X9_in l E m0 x1 0 ((m0 112 (ix 9)) - 1)) ks_X9_in q912 ⟨rfl, rfl⟩ ⟨Nat.le_of_ble_eq_true rfl, Nat.le_of_ble_eq_true rfl⟩ ⟨Nat.zero_le _, Nat.zero_le _⟩ rfl rfl (Nat.le_of_ble_eq_true rfl) dX9_finishes_11 (fun m1 r1 => ?_)
  refine v_if_ne (tgt := 25) dX9_finishes_14 (by decide) ?_ ?_
  · refine v_aload_n dX9_finishes_25 rfl 0 rfl ?_
    refine v_callVv (q := 111) (ci := 9) (C := RX9) (T := TX9) (NN := 24) (As := []) (rest := []) (c_X9_hold l E N m1) kv_X9_hold kc111 (by decide) rfl q929 ⟨rfl, rfl⟩ ⟨Nat.le_of_ble_eq_true rfl, Nat.le_of_ble_eq_true rfl⟩ ⟨Nat.zero_le _, Nat.zero_le _⟩ rfl rfl (Nat.le_of_ble_eq_true rfl) dX9_finishes_26 (fun m2 _ => ?_)
    refine v_aload_n dX9_finishes_29 rfl 0 rfl ?_
    refine v_bipush (v := 9) dX9_finishes_30 rfl ?_
    refine v_bipush (v := 13) dX9_finishes_32 rfl ?_
    refine v_iload_n dX9_finishes_34 rfl 1 rfl ?_
    refine v_callVv (q := 111) (ci := 9) (C := RX9) (T := TX9) (NN := 24) (As := [.int 9, .int 13, .int x1]) (rest := []) (c_X9_removeAt l E N m2 9 13 x1) kv_X9_removeAt kc111 (by decide) rfl q1087 ⟨rfl, rfl⟩ ⟨Nat.le_of_ble_eq_true rfl, Nat.le_of_ble_eq_true rfl⟩ ⟨Nat.zero_le _, Nat.zero_le _⟩ rfl rfl (Nat.le_of_ble_eq_true rfl) dX9_finishes_35 (fun m3 _ => ?_)
    refine v_aload_n dX9_finishes_38 rfl 0 rfl ?_
    refine gf_X9_now kc111 q822 dX9_finishes_39 ?_
    refine v_bipush (v := 9) dX9_finishes_42 rfl ?_
    refine v_gd (fun g44 => ?_)
    refine v_iald kc112 rfl g44 dX9_finishes_44 ?_
    refine v_if_ne (tgt := 77) dX9_finishes_45 (by decide) ?_ ?_
    · refine v_sub [0] rfl ?_
      exact w_X9_finishes_77 l E N m3
    · refine v_aload_n dX9_finishes_48 rfl 0 rfl ?_
      refine gf_X9_now kc111 q822 dX9_finishes_49 ?_
      refine v_bipush (v := 10) dX9_finishes_52 rfl ?_
      refine v_gd (fun g54 => ?_)
      refine v_iald kc112 rfl g54 dX9_finishes_54 ?_
      refine v_iconst (v := 1) dX9_finishes_55 rfl ?_
      refine v_icmp_ne (tgt := 77) dX9_finishes_56 (by decide) ?_ ?_
      · refine v_sub [0] rfl ?_
        exact w_X9_finishes_77 l E N m3
      · refine v_aload_n dX9_finishes_59 rfl 0 rfl ?_
        refine gf_X9_now kc111 q822 dX9_finishes_60 ?_
        refine v_iconst (v := 1) dX9_finishes_63 rfl ?_
        refine v_dup2 dX9_finishes_64 rfl rfl ?_
        refine v_gd (fun g65 => ?_)
        refine v_iald kc112 rfl g65 dX9_finishes_65 ?_
        refine v_iconst (v := 1) dX9_finishes_66 rfl ?_
        refine v_ior dX9_finishes_67 ?_
        refine v_gd (fun g68 => ?_)
        refine v_iast kc112 rfl g68 dX9_finishes_68 (fun m4 => ?_)
        refine v_aload_n dX9_finishes_69 rfl 0 rfl ?_
        refine gf_X9_now kc111 q822 dX9_finishes_70 ?_
        refine v_bipush (v := 10) dX9_finishes_73 rfl ?_
        refine v_iconst (v := 0) dX9_finishes_75 rfl ?_
        refine v_gd (fun g76 => ?_)
        refine v_iast kc112 rfl g76 dX9_finishes_76 (fun m5 => ?_)
        refine v_sub [0] rfl ?_
        exact w_X9_finishes_77 l E N m5
  · refine v_aload_n dX9_finishes_17 rfl 0 rfl ?_
    refine v_sipush (v := (-10002)) dX9_finishes_18 rfl ?_
    refine v_callVi (q := 111) (ci := 9) (C := RX9) (T := TX9) (NN := 24) (As := [.int (-10002)]) (rest := []) (c_X9_refuses l E m1 (-10002)) kv_X9_refuses kc111 (by decide) rfl q900 ⟨rfl, rfl⟩ ⟨Nat.le_of_ble_eq_true rfl, Nat.le_of_ble_eq_true rfl⟩ ⟨Nat.zero_le _, Nat.zero_le _⟩ rfl rfl (Nat.le_of_ble_eq_true rfl) dX9_finishes_21 (fun m6 r6 => ?_)
    exact v_iret dX9_finishes_24

def rm_X9_stateOf : Room := { frames := 1, cells := 0, slots := 0, locals := 21 }
def f_X9_stateOf (m0 : Mem) (x1 : Int32) : Option (Mem × Int32) := if x1 = 3 then (bm (f_X9_sum m0) (fun m1 r1 => some (m1, r1))) else (if x1 = 13 then (gd (inR 0 347) (some (m0, (m0 112 (ix 0))))) else (if 3 ≤ x1 then (gd (inR x1 347) (some (m0, (m0 112 (ix x1))))) else (gd (inR (1 + x1) 347) (some (m0, (m0 112 (ix (1 + x1))))))))
theorem c_X9_stateOf (l : Launch) (E : EnvT) (m0 : Mem) (x1 : Int32) : CT l E yX9_stateOf cX9_stateOf 2 (some .int) (rm_X9_stateOf) rvI (f_X9_stateOf m0 x1) [.ref (eAd E 111), .int x1] m0 := by
  refine CT.ofV (own := RX9) (by decide) rfl (Nat.le_of_ble_eq_true rfl) ?_
  show V l E RX9 cX9_stateOf 2 (some .int) (rm_X9_stateOf) 0 0 (Zm E) rvI _ m0 0 [(0, .ref (eAd E 111)), (1, .int x1)] []
  unfold f_X9_stateOf
  refine v_iload_n dX9_stateOf_0 rfl 1 rfl ?_
  refine v_iconst (v := 3) dX9_stateOf_1 rfl ?_
  refine v_icmp_ne (tgt := 12) dX9_stateOf_2 (by decide) ?_ ?_
  · refine v_iload_n dX9_stateOf_12 rfl 1 rfl ?_
    refine v_bipush (v := 13) dX9_stateOf_13 rfl ?_
    refine v_icmp_ne (tgt := 27) dX9_stateOf_15 (by decide) ?_ ?_
    · refine v_iload_n dX9_stateOf_27 rfl 1 rfl ?_
      refine v_iconst (v := 3) dX9_stateOf_28 rfl ?_
      refine v_icmp_ge (tgt := 43) dX9_stateOf_29 (by decide) ?_ ?_
      · refine v_aload_n dX9_stateOf_43 rfl 0 rfl ?_
        refine gf_X9_now kc111 q822 dX9_stateOf_44 ?_
        refine v_iload_n dX9_stateOf_47 rfl 1 rfl ?_
        refine v_gd (fun g48 => ?_)
        refine v_iald kc112 rfl g48 dX9_stateOf_48 ?_
        exact v_iret dX9_stateOf_49
      · refine v_aload_n dX9_stateOf_32 rfl 0 rfl ?_
        refine gf_X9_now kc111 q822 dX9_stateOf_33 ?_
        refine v_iconst (v := 1) dX9_stateOf_36 rfl ?_
        refine v_iload_n dX9_stateOf_37 rfl 1 rfl ?_
        refine v_iadd dX9_stateOf_38 ?_
        refine v_gd (fun g39 => ?_)
        refine v_iald kc112 rfl g39 dX9_stateOf_39 ?_
        refine v_goto (tgt := 49) dX9_stateOf_40 (by decide) ?_
        exact v_iret dX9_stateOf_49
    · refine v_aload_n dX9_stateOf_18 rfl 0 rfl ?_
      refine gf_X9_now kc111 q822 dX9_stateOf_19 ?_
      refine v_iconst (v := 0) dX9_stateOf_22 rfl ?_
      refine v_gd (fun g23 => ?_)
      refine v_iald kc112 rfl g23 dX9_stateOf_23 ?_
      refine v_goto (tgt := 49) dX9_stateOf_24 (by decide) ?_
      exact v_iret dX9_stateOf_49
  · refine v_aload_n dX9_stateOf_5 rfl 0 rfl ?_
    refine v_callVi (q := 111) (ci := 9) (C := RX9) (T := TX9) (NN := 24) (As := []) (rest := []) (c_X9_sum l E m0) kv_X9_sum kc111 (by decide) rfl q1059 ⟨rfl, rfl⟩ ⟨Nat.le_of_ble_eq_true rfl, Nat.le_of_ble_eq_true rfl⟩ ⟨Nat.zero_le _, Nat.zero_le _⟩ rfl rfl (Nat.le_of_ble_eq_true rfl) dX9_stateOf_6 (fun m1 r1 => ?_)
    refine v_goto (tgt := 49) dX9_stateOf_9 (by decide) ?_
    exact v_iret dX9_stateOf_49

def rm_X9_state : Room := { frames := 2, cells := 0, slots := 0, locals := 42 }
def f_X9_state (m0 : Mem) (x1 : Int32) : Option (Mem × Int32) := bm (f_X9_in m0 x1 0 13) (fun m1 r1 => if r1 = 0 then (bm (f_X9_refuses m1 (-10002)) (fun m2 r2 => some (m2, r2))) else (bm (f_X9_stateOf m1 x1) (fun m3 r3 => some (m3, r3))))
theorem c_X9_state (l : Launch) (E : EnvT) (m0 : Mem) (x1 : Int32) : CT l E yX9_state cX9_state 2 (some .int) (rm_X9_state) rvI (f_X9_state m0 x1) [.ref (eAd E 111), .int x1] m0 := by
  refine CT.ofV (own := RX9) (by decide) rfl (Nat.le_of_ble_eq_true rfl) ?_
  show V l E RX9 cX9_state 2 (some .int) (rm_X9_state) 0 0 (Zm E) rvI _ m0 0 [(0, .ref (eAd E 111)), (1, .int x1)] []
  unfold f_X9_state
  refine v_iload_n dX9_state_0 rfl 1 rfl ?_
  refine v_iconst (v := 0) dX9_state_1 rfl ?_
  refine v_bipush (v := 13) dX9_state_2 rfl ?_
  refine v_callSi (As := [.int x1, .int 0, .int 13]) (rest := []) (c_X9_in l E m0 x1 0 13) ks_X9_in q912 ⟨rfl, rfl⟩ ⟨Nat.le_of_ble_eq_true rfl, Nat.le_of_ble_eq_true rfl⟩ ⟨Nat.zero_le _, Nat.zero_le _⟩ rfl rfl (Nat.le_of_ble_eq_true rfl) dX9_state_4 (fun m1 r1 => ?_)
  refine v_if_eq (tgt := 18) dX9_state_7 (by decide) ?_ ?_
  · refine v_aload_n dX9_state_18 rfl 0 rfl ?_
    refine v_sipush (v := (-10002)) dX9_state_19 rfl ?_
    refine v_callVi (q := 111) (ci := 9) (C := RX9) (T := TX9) (NN := 24) (As := [.int (-10002)]) (rest := []) (c_X9_refuses l E m1 (-10002)) kv_X9_refuses kc111 (by decide) rfl q900 ⟨rfl, rfl⟩ ⟨Nat.le_of_ble_eq_true rfl, Nat.le_of_ble_eq_true rfl⟩ ⟨Nat.zero_le _, Nat.zero_le _⟩ rfl rfl (Nat.le_of_ble_eq_true rfl) dX9_state_22 (fun m2 r2 => ?_)
    exact v_iret dX9_state_25
  · refine v_aload_n dX9_state_10 rfl 0 rfl ?_
    refine v_iload_n dX9_state_11 rfl 1 rfl ?_
    refine v_callVi (q := 111) (ci := 9) (C := RX9) (T := TX9) (NN := 24) (As := [.int x1]) (rest := []) (c_X9_stateOf l E m1 x1) kv_X9_stateOf kc111 (by decide) rfl q1115 ⟨rfl, rfl⟩ ⟨Nat.le_of_ble_eq_true rfl, Nat.le_of_ble_eq_true rfl⟩ ⟨Nat.zero_le _, Nat.zero_le _⟩ rfl rfl (Nat.le_of_ble_eq_true rfl) dX9_state_12 (fun m3 r3 => ?_)
    refine v_goto (tgt := 25) dX9_state_15 (by decide) ?_
    exact v_iret dX9_state_25

def rm_X9_rowAt : Room := { frames := 1, cells := 0, slots := 0, locals := 21 }
def f_X9_rowAt (m0 : Mem) (x1 : Int32) (x2 : Int32) (x3 : Int32) : Option (Mem × Int32) := if 0 ≤ x1 then (gd (inR x2 347) (if (m0 112 (ix x2)) ≤ x1 then (some (m0, (-10001))) else (gd (inR (x3 + x1) 347) (some (m0, (m0 112 (ix (x3 + x1)))))))) else (bm (f_X9_refuses m0 (-10002)) (fun m1 r1 => some (m1, r1)))
theorem c_X9_rowAt (l : Launch) (E : EnvT) (m0 : Mem) (x1 : Int32) (x2 : Int32) (x3 : Int32) : CT l E yX9_rowAt cX9_rowAt 4 (some .int) (rm_X9_rowAt) rvI (f_X9_rowAt m0 x1 x2 x3) [.ref (eAd E 111), .int x1, .int x2, .int x3] m0 := by
  refine CT.ofV (own := RX9) (by decide) rfl (Nat.le_of_ble_eq_true rfl) ?_
  show V l E RX9 cX9_rowAt 4 (some .int) (rm_X9_rowAt) 0 0 (Zm E) rvI _ m0 0 [(0, .ref (eAd E 111)), (1, .int x1), (2, .int x2), (3, .int x3)] []
  unfold f_X9_rowAt
  refine v_iload_n dX9_rowAt_0 rfl 1 rfl ?_
  refine v_if_ge (tgt := 12) dX9_rowAt_1 (by decide) ?_ ?_
  · refine v_iload_n dX9_rowAt_12 rfl 1 rfl ?_
    refine v_aload_n dX9_rowAt_13 rfl 0 rfl ?_
    refine gf_X9_now kc111 q822 dX9_rowAt_14 ?_
    refine v_iload_n dX9_rowAt_17 rfl 2 rfl ?_
    refine v_gd (fun g18 => ?_)
    refine v_iald kc112 rfl g18 dX9_rowAt_18 ?_
    refine v_icmp_ge (tgt := 33) dX9_rowAt_19 (by decide) ?_ ?_
    · refine v_sipush (v := (-10001)) dX9_rowAt_33 rfl ?_
      exact v_iret dX9_rowAt_36
    · refine v_aload_n dX9_rowAt_22 rfl 0 rfl ?_
      refine gf_X9_now kc111 q822 dX9_rowAt_23 ?_
      refine v_iload_n dX9_rowAt_26 rfl 3 rfl ?_
      refine v_iload_n dX9_rowAt_27 rfl 1 rfl ?_
      refine v_iadd dX9_rowAt_28 ?_
      refine v_gd (fun g29 => ?_)
      refine v_iald kc112 rfl g29 dX9_rowAt_29 ?_
      refine v_goto (tgt := 36) dX9_rowAt_30 (by decide) ?_
      exact v_iret dX9_rowAt_36
  · refine v_aload_n dX9_rowAt_4 rfl 0 rfl ?_
    refine v_sipush (v := (-10002)) dX9_rowAt_5 rfl ?_
    refine v_callVi (q := 111) (ci := 9) (C := RX9) (T := TX9) (NN := 24) (As := [.int (-10002)]) (rest := []) (c_X9_refuses l E m0 (-10002)) kv_X9_refuses kc111 (by decide) rfl q900 ⟨rfl, rfl⟩ ⟨Nat.le_of_ble_eq_true rfl, Nat.le_of_ble_eq_true rfl⟩ ⟨Nat.zero_le _, Nat.zero_le _⟩ rfl rfl (Nat.le_of_ble_eq_true rfl) dX9_rowAt_8 (fun m1 r1 => ?_)
    exact v_iret dX9_rowAt_11

def rm_X9_answers : Room := { frames := 2, cells := 0, slots := 0, locals := 44 }
def f_X9_answers (m0 : Mem) (x1 : Int32) : Option (Mem × Int32) := bm (f_X9_rowAt m0 x1 11 17) (fun m1 r1 => some (m1, r1))
theorem c_X9_answers (l : Launch) (E : EnvT) (m0 : Mem) (x1 : Int32) : CT l E yX9_answers cX9_answers 2 (some .int) (rm_X9_answers) rvI (f_X9_answers m0 x1) [.ref (eAd E 111), .int x1] m0 := by
  refine CT.ofV (own := RX9) (by decide) rfl (Nat.le_of_ble_eq_true rfl) ?_
  show V l E RX9 cX9_answers 2 (some .int) (rm_X9_answers) 0 0 (Zm E) rvI _ m0 0 [(0, .ref (eAd E 111)), (1, .int x1)] []
  unfold f_X9_answers
  refine v_aload_n dX9_answers_0 rfl 0 rfl ?_
  refine v_iload_n dX9_answers_1 rfl 1 rfl ?_
  refine v_bipush (v := 11) dX9_answers_2 rfl ?_
  refine v_bipush (v := 17) dX9_answers_4 rfl ?_
  refine v_callVi (q := 111) (ci := 9) (C := RX9) (T := TX9) (NN := 24) (As := [.int x1, .int 11, .int 17]) (rest := []) (c_X9_rowAt l E m0 x1 11 17) kv_X9_rowAt kc111 (by decide) rfl q1123 ⟨rfl, rfl⟩ ⟨Nat.le_of_ble_eq_true rfl, Nat.le_of_ble_eq_true rfl⟩ ⟨Nat.zero_le _, Nat.zero_le _⟩ rfl rfl (Nat.le_of_ble_eq_true rfl) dX9_answers_6 (fun m1 r1 => ?_)
  exact v_iret dX9_answers_9

def rm_X9_faults : Room := { frames := 2, cells := 0, slots := 0, locals := 44 }
def f_X9_faults (m0 : Mem) (x1 : Int32) : Option (Mem × Int32) := bm (f_X9_rowAt m0 x1 12 23) (fun m1 r1 => some (m1, r1))
theorem c_X9_faults (l : Launch) (E : EnvT) (m0 : Mem) (x1 : Int32) : CT l E yX9_faults cX9_faults 2 (some .int) (rm_X9_faults) rvI (f_X9_faults m0 x1) [.ref (eAd E 111), .int x1] m0 := by
  refine CT.ofV (own := RX9) (by decide) rfl (Nat.le_of_ble_eq_true rfl) ?_
  show V l E RX9 cX9_faults 2 (some .int) (rm_X9_faults) 0 0 (Zm E) rvI _ m0 0 [(0, .ref (eAd E 111)), (1, .int x1)] []
  unfold f_X9_faults
  refine v_aload_n dX9_faults_0 rfl 0 rfl ?_
  refine v_iload_n dX9_faults_1 rfl 1 rfl ?_
  refine v_bipush (v := 12) dX9_faults_2 rfl ?_
  refine v_bipush (v := 23) dX9_faults_4 rfl ?_
  refine v_callVi (q := 111) (ci := 9) (C := RX9) (T := TX9) (NN := 24) (As := [.int x1, .int 12, .int 23]) (rest := []) (c_X9_rowAt l E m0 x1 12 23) kv_X9_rowAt kc111 (by decide) rfl q1123 ⟨rfl, rfl⟩ ⟨Nat.le_of_ble_eq_true rfl, Nat.le_of_ble_eq_true rfl⟩ ⟨Nat.zero_le _, Nat.zero_le _⟩ rfl rfl (Nat.le_of_ble_eq_true rfl) dX9_faults_6 (fun m1 r1 => ?_)
  exact v_iret dX9_faults_9

def rm_X9_pending : Room := { frames := 2, cells := 0, slots := 0, locals := 44 }
def f_X9_pending (m0 : Mem) (x1 : Int32) : Option (Mem × Int32) := bm (f_X9_rowAt m0 x1 9 13) (fun m1 r1 => some (m1, r1))
theorem c_X9_pending (l : Launch) (E : EnvT) (m0 : Mem) (x1 : Int32) : CT l E yX9_pending cX9_pending 2 (some .int) (rm_X9_pending) rvI (f_X9_pending m0 x1) [.ref (eAd E 111), .int x1] m0 := by
  refine CT.ofV (own := RX9) (by decide) rfl (Nat.le_of_ble_eq_true rfl) ?_
  show V l E RX9 cX9_pending 2 (some .int) (rm_X9_pending) 0 0 (Zm E) rvI _ m0 0 [(0, .ref (eAd E 111)), (1, .int x1)] []
  unfold f_X9_pending
  refine v_aload_n dX9_pending_0 rfl 0 rfl ?_
  refine v_iload_n dX9_pending_1 rfl 1 rfl ?_
  refine v_bipush (v := 9) dX9_pending_2 rfl ?_
  refine v_bipush (v := 13) dX9_pending_4 rfl ?_
  refine v_callVi (q := 111) (ci := 9) (C := RX9) (T := TX9) (NN := 24) (As := [.int x1, .int 9, .int 13]) (rest := []) (c_X9_rowAt l E m0 x1 9 13) kv_X9_rowAt kc111 (by decide) rfl q1123 ⟨rfl, rfl⟩ ⟨Nat.le_of_ble_eq_true rfl, Nat.le_of_ble_eq_true rfl⟩ ⟨Nat.zero_le _, Nat.zero_le _⟩ rfl rfl (Nat.le_of_ble_eq_true rfl) dX9_pending_6 (fun m1 r1 => ?_)
  exact v_iret dX9_pending_9

def rm_X9_type : Room := { frames := 1, cells := 0, slots := 0, locals := 22 }
def f_X9_type (m0 : Mem) (x1 : Int32) : Option (Mem × Int32) := bm (f_X9_in m0 x1 0 127) (fun m1 r1 => if r1 = 0 then (bm (f_X9_refuses m1 (-10002)) (fun m5 r5 => some (m5, r5))) else (if (m1 111 6) = 100 then (bm (f_X9_refuses m1 (-10004)) (fun m4 r4 => some (m4, r4))) else (gd (inR (m1 111 6) 100) (lm (up m1 116 (ix (m1 111 6)) x1) (fun m2 => lm (up m2 111 6 ((m2 111 6) + 1)) (fun m3 => some (m3, (m3 111 6))))))))
theorem c_X9_type (l : Launch) (E : EnvT) (m0 : Mem) (x1 : Int32) : CT l E yX9_type cX9_type 2 (some .int) (rm_X9_type) rvI (f_X9_type m0 x1) [.ref (eAd E 111), .int x1] m0 := by
  refine CT.ofV (own := RX9) (by decide) rfl (Nat.le_of_ble_eq_true rfl) ?_
  show V l E RX9 cX9_type 2 (some .int) (rm_X9_type) 0 0 (Zm E) rvI _ m0 0 [(0, .ref (eAd E 111)), (1, .int x1)] []
  unfold f_X9_type
  refine v_iload_n dX9_type_0 rfl 1 rfl ?_
  refine v_iconst (v := 0) dX9_type_1 rfl ?_
  refine v_bipush (v := 127) dX9_type_2 rfl ?_
  refine v_callSi (As := [.int x1, .int 0, .int 127]) (rest := []) (c_X9_in l E m0 x1 0 127) ks_X9_in q912 ⟨rfl, rfl⟩ ⟨Nat.le_of_ble_eq_true rfl, Nat.le_of_ble_eq_true rfl⟩ ⟨Nat.zero_le _, Nat.zero_le _⟩ rfl rfl (Nat.le_of_ble_eq_true rfl) dX9_type_4 (fun m1 r1 => ?_)
  refine v_if_ne (tgt := 18) dX9_type_7 (by decide) ?_ ?_
  · refine v_aload_n dX9_type_18 rfl 0 rfl ?_
    refine gf_X9_typed kc111 q828 dX9_type_19 ?_
    refine v_bipush (v := 100) dX9_type_22 rfl ?_
    refine v_icmp_ne (tgt := 35) dX9_type_24 (by decide) ?_ ?_
    · refine v_aload_n dX9_type_35 rfl 0 rfl ?_
      refine gf_X9_text kc111 q827 dX9_type_36 ?_
      refine v_aload_n dX9_type_39 rfl 0 rfl ?_
      refine gf_X9_typed kc111 q828 dX9_type_40 ?_
      refine v_iload_n dX9_type_43 rfl 1 rfl ?_
      refine v_gd (fun g44 => ?_)
      refine v_iast kc116 rfl g44 dX9_type_44 (fun m2 => ?_)
      refine v_aload_n dX9_type_45 rfl 0 rfl ?_
      refine v_dup dX9_type_46 rfl ?_
      refine gf_X9_typed kc111 q828 dX9_type_47 ?_
      refine v_iconst (v := 1) dX9_type_50 rfl ?_
      refine v_iadd dX9_type_51 ?_
      refine pf_X9_typed kc111 q828 dX9_type_52 (fun m3 => ?_)
      refine v_aload_n dX9_type_55 rfl 0 rfl ?_
      refine gf_X9_typed kc111 q828 dX9_type_56 ?_
      exact v_iret dX9_type_59
    · refine v_aload_n dX9_type_27 rfl 0 rfl ?_
      refine v_sipush (v := (-10004)) dX9_type_28 rfl ?_
      refine v_callVi (q := 111) (ci := 9) (C := RX9) (T := TX9) (NN := 24) (As := [.int (-10004)]) (rest := []) (c_X9_refuses l E m1 (-10004)) kv_X9_refuses kc111 (by decide) rfl q900 ⟨rfl, rfl⟩ ⟨Nat.le_of_ble_eq_true rfl, Nat.le_of_ble_eq_true rfl⟩ ⟨Nat.zero_le _, Nat.zero_le _⟩ rfl rfl (Nat.le_of_ble_eq_true rfl) dX9_type_31 (fun m4 r4 => ?_)
      exact v_iret dX9_type_34
  · refine v_aload_n dX9_type_10 rfl 0 rfl ?_
    refine v_sipush (v := (-10002)) dX9_type_11 rfl ?_
    refine v_callVi (q := 111) (ci := 9) (C := RX9) (T := TX9) (NN := 24) (As := [.int (-10002)]) (rest := []) (c_X9_refuses l E m1 (-10002)) kv_X9_refuses kc111 (by decide) rfl q900 ⟨rfl, rfl⟩ ⟨Nat.le_of_ble_eq_true rfl, Nat.le_of_ble_eq_true rfl⟩ ⟨Nat.zero_le _, Nat.zero_le _⟩ rfl rfl (Nat.le_of_ble_eq_true rfl) dX9_type_14 (fun m5 r5 => ?_)
    exact v_iret dX9_type_17

def rm_X9_clear : Room := { frames := 0, cells := 0, slots := 0, locals := 0 }
def f_X9_clear (m0 : Mem) : Option (Mem × Int32) := lm (up m0 111 6 0) (fun m1 => some (m1, (m0 111 6)))
theorem c_X9_clear (l : Launch) (E : EnvT) (m0 : Mem) : CT l E yX9_clear cX9_clear 2 (some .int) (rm_X9_clear) rvI (f_X9_clear m0) [.ref (eAd E 111)] m0 := by
  refine CT.ofV (own := RX9) (by decide) rfl (Nat.le_of_ble_eq_true rfl) ?_
  show V l E RX9 cX9_clear 2 (some .int) (rm_X9_clear) 0 0 (Zm E) rvI _ m0 0 [(0, .ref (eAd E 111))] []
  unfold f_X9_clear
  refine v_aload_n dX9_clear_0 rfl 0 rfl ?_
  refine gf_X9_typed kc111 q828 dX9_clear_1 ?_
  refine v_istore_n (lv' := [(1, .int (m0 111 6)), (0, .ref (eAd E 111))]) dX9_clear_4 rfl (Nat.le_of_ble_eq_true rfl) rfl ?_
  refine v_aload_n dX9_clear_5 rfl 1 rfl ?_
  refine v_iconst (v := 0) dX9_clear_6 rfl ?_
  refine pf_X9_typed kc111 q828 dX9_clear_7 (fun m1 => ?_)
  refine v_iload_n dX9_clear_10 rfl 0 rfl ?_
  exact v_iret dX9_clear_11

def rm_X9_toldOf : Room := { frames := 0, cells := 0, slots := 0, locals := 0 }
def f_X9_toldOf (m0 : Mem) (x1 : Int32) : Option (Mem × Int32) := if 3 ≤ x1 then (if x1 = 3 then (some (m0, (m0 111 6))) else (some (m0, (m0 111 3)))) else (gd (inR x1 3) (some (m0, (m0 115 (ix x1)))))
theorem c_X9_toldOf (l : Launch) (E : EnvT) (m0 : Mem) (x1 : Int32) : CT l E yX9_toldOf cX9_toldOf 2 (some .int) (rm_X9_toldOf) rvI (f_X9_toldOf m0 x1) [.ref (eAd E 111), .int x1] m0 := by
  refine CT.ofV (own := RX9) (by decide) rfl (Nat.le_of_ble_eq_true rfl) ?_
  show V l E RX9 cX9_toldOf 2 (some .int) (rm_X9_toldOf) 0 0 (Zm E) rvI _ m0 0 [(0, .ref (eAd E 111)), (1, .int x1)] []
  unfold f_X9_toldOf
  refine v_iload_n dX9_toldOf_0 rfl 1 rfl ?_
  refine v_iconst (v := 3) dX9_toldOf_1 rfl ?_
  refine v_icmp_ge (tgt := 14) dX9_toldOf_2 (by decide) ?_ ?_
  · refine v_iload_n dX9_toldOf_14 rfl 1 rfl ?_
    refine v_iconst (v := 3) dX9_toldOf_15 rfl ?_
    refine v_icmp_ne (tgt := 26) dX9_toldOf_16 (by decide) ?_ ?_
    · refine v_aload_n dX9_toldOf_26 rfl 0 rfl ?_
      refine gf_X9_pasts kc111 q825 dX9_toldOf_27 ?_
      exact v_iret dX9_toldOf_30
    · refine v_aload_n dX9_toldOf_19 rfl 0 rfl ?_
      refine gf_X9_typed kc111 q828 dX9_toldOf_20 ?_
      refine v_goto (tgt := 30) dX9_toldOf_23 (by decide) ?_
      exact v_iret dX9_toldOf_30
  · refine v_aload_n dX9_toldOf_5 rfl 0 rfl ?_
    refine gf_X9_refused kc111 q826 dX9_toldOf_6 ?_
    refine v_iload_n dX9_toldOf_9 rfl 1 rfl ?_
    refine v_gd (fun g10 => ?_)
    refine v_iald kc115 rfl g10 dX9_toldOf_10 ?_
    refine v_goto (tgt := 30) dX9_toldOf_11 (by decide) ?_
    exact v_iret dX9_toldOf_30

def rm_X9_told : Room := { frames := 1, cells := 0, slots := 0, locals := 22 }
def f_X9_told (m0 : Mem) (x1 : Int32) : Option (Mem × Int32) := bm (f_X9_in m0 x1 0 4) (fun m1 r1 => if r1 = 0 then (bm (f_X9_refuses m1 (-10002)) (fun m2 r2 => some (m2, r2))) else (bm (f_X9_toldOf m1 x1) (fun m3 r3 => some (m3, r3))))
theorem c_X9_told (l : Launch) (E : EnvT) (m0 : Mem) (x1 : Int32) : CT l E yX9_told cX9_told 2 (some .int) (rm_X9_told) rvI (f_X9_told m0 x1) [.ref (eAd E 111), .int x1] m0 := by
  refine CT.ofV (own := RX9) (by decide) rfl (Nat.le_of_ble_eq_true rfl) ?_
  show V l E RX9 cX9_told 2 (some .int) (rm_X9_told) 0 0 (Zm E) rvI _ m0 0 [(0, .ref (eAd E 111)), (1, .int x1)] []
  unfold f_X9_told
  refine v_iload_n dX9_told_0 rfl 1 rfl ?_
  refine v_iconst (v := 0) dX9_told_1 rfl ?_
  refine v_iconst (v := 4) dX9_told_2 rfl ?_
  refine v_callSi (As := [.int x1, .int 0, .int 4]) (rest := []) (c_X9_in l E m0 x1 0 4) ks_X9_in q912 ⟨rfl, rfl⟩ ⟨Nat.le_of_ble_eq_true rfl, Nat.le_of_ble_eq_true rfl⟩ ⟨Nat.zero_le _, Nat.zero_le _⟩ rfl rfl (Nat.le_of_ble_eq_true rfl) dX9_told_3 (fun m1 r1 => ?_)
  refine v_if_eq (tgt := 17) dX9_told_6 (by decide) ?_ ?_
  · refine v_aload_n dX9_told_17 rfl 0 rfl ?_
    refine v_sipush (v := (-10002)) dX9_told_18 rfl ?_
    refine v_callVi (q := 111) (ci := 9) (C := RX9) (T := TX9) (NN := 24) (As := [.int (-10002)]) (rest := []) (c_X9_refuses l E m1 (-10002)) kv_X9_refuses kc111 (by decide) rfl q900 ⟨rfl, rfl⟩ ⟨Nat.le_of_ble_eq_true rfl, Nat.le_of_ble_eq_true rfl⟩ ⟨Nat.zero_le _, Nat.zero_le _⟩ rfl rfl (Nat.le_of_ble_eq_true rfl) dX9_told_21 (fun m2 r2 => ?_)
    exact v_iret dX9_told_24
  · refine v_aload_n dX9_told_9 rfl 0 rfl ?_
    refine v_iload_n dX9_told_10 rfl 1 rfl ?_
    refine v_callVi (q := 111) (ci := 9) (C := RX9) (T := TX9) (NN := 24) (As := [.int x1]) (rest := []) (c_X9_toldOf l E m1 x1) kv_X9_toldOf kc111 (by decide) rfl q1147 ⟨rfl, rfl⟩ ⟨Nat.le_of_ble_eq_true rfl, Nat.le_of_ble_eq_true rfl⟩ ⟨Nat.zero_le _, Nat.zero_le _⟩ rfl rfl (Nat.le_of_ble_eq_true rfl) dX9_told_11 (fun m3 r3 => ?_)
    refine v_goto (tgt := 24) dX9_told_14 (by decide) ?_
    exact v_iret dX9_told_24

def rm_X9_mix : Room := { frames := 0, cells := 0, slots := 0, locals := 0 }
def f_X9_mix (m0 : Mem) (x1 : Int32) : Option (Mem × Unit) := lm (up (up m0 111 23 (lo32 ((31 * (j64 (m0 111 23) (m0 111 24))) + (x1.toInt64)))) 111 24 (hi32 ((31 * (j64 (m0 111 23) (m0 111 24))) + (x1.toInt64)))) (fun m1 => some (m1, ()))
theorem c_X9_mix (l : Launch) (E : EnvT) (m0 : Mem) (x1 : Int32) : CT l E yX9_mix cX9_mix 2 none (rm_X9_mix) rvV (f_X9_mix m0 x1) [.ref (eAd E 111), .int x1] m0 := by
  refine CT.ofV (own := RX9) (by decide) rfl (Nat.le_of_ble_eq_true rfl) ?_
  show V l E RX9 cX9_mix 2 none (rm_X9_mix) 0 0 (Zm E) rvV _ m0 0 [(0, .ref (eAd E 111)), (1, .int x1)] []
  unfold f_X9_mix
  refine v_aload_n dX9_mix_0 rfl 0 rfl ?_
  refine v_ldc2 q1160 dX9_mix_1 ?_
  refine v_aload_n dX9_mix_4 rfl 0 rfl ?_
  refine gf_X9_h kc111 q845 dX9_mix_5 ?_
  refine v_lmul dX9_mix_8 ?_
  refine v_iload_n dX9_mix_9 rfl 1 rfl ?_
  refine v_i2l dX9_mix_10 ?_
  refine v_ladd dX9_mix_11 ?_
  refine pf_X9_h kc111 q845 dX9_mix_12 (fun m1 => ?_)
  exact v_vret dX9_mix_15

def rm_X9_mixRow : Room := { frames := 1, cells := 0, slots := 0, locals := 21 }
def f_X9_mixRow_2b (N : Nat) (rec_2 : Mem → Int32 → Int32 → Int32 → Option (Mem × Unit)) (m0 : Mem) (x1 : Int32) (x2 : Int32) (x3 : Int32) : Option (Mem × Unit) := gd (inR x1 347) (if (m0 112 (ix x1)) ≤ x3 then (some (m0, ())) else (gd (inR (x2 + x3) 347) (bm (f_X9_mix m0 (m0 112 (ix (x2 + x3)))) (fun m1 _ => (rec_2 m1 x1 x2 (x3 + 1))))))
def f_X9_mixRow_2 (N : Nat) : Nat → Mem → Int32 → Int32 → Int32 → Option (Mem × Unit)
  | 0 => fun _ _ _ _ => none
  | n + 1 => f_X9_mixRow_2b N (f_X9_mixRow_2 N n)
theorem w_X9_mixRow_2b (l : Launch) (E : EnvT) (N : Nat) (rec_2 : Mem → Int32 → Int32 → Int32 → Option (Mem × Unit)) (hrec_2 : ∀ (m0 : Mem) (x1 : Int32) (x2 : Int32) (x3 : Int32), V l E RX9 cX9_mixRow 4 none (rm_X9_mixRow) 0 0 (Zm E) rvV (rec_2 m0 x1 x2 x3) m0 2 [(0, .ref (eAd E 111)), (1, .int x1), (2, .int x2), (3, .int x3)] []) (m0 : Mem) (x1 : Int32) (x2 : Int32) (x3 : Int32) : V l E RX9 cX9_mixRow 4 none (rm_X9_mixRow) 0 0 (Zm E) rvV (f_X9_mixRow_2b N rec_2 m0 x1 x2 x3) m0 2 [(0, .ref (eAd E 111)), (1, .int x1), (2, .int x2), (3, .int x3)] [] := by
  unfold f_X9_mixRow_2b
  refine v_iload_n dX9_mixRow_2 rfl 3 rfl ?_
  refine v_aload_n dX9_mixRow_3 rfl 0 rfl ?_
  refine gf_X9_now kc111 q822 dX9_mixRow_4 ?_
  refine v_iload_n dX9_mixRow_7 rfl 1 rfl ?_
  refine v_gd (fun g8 => ?_)
  refine v_iald kc112 rfl g8 dX9_mixRow_8 ?_
  refine v_icmp_ge (tgt := 30) dX9_mixRow_9 (by decide) ?_ ?_
  · exact v_vret dX9_mixRow_30
  · refine v_aload_n dX9_mixRow_12 rfl 0 rfl ?_
    refine v_aload_n dX9_mixRow_13 rfl 0 rfl ?_
    refine gf_X9_now kc111 q822 dX9_mixRow_14 ?_
    refine v_iload_n dX9_mixRow_17 rfl 2 rfl ?_
    refine v_iload_n dX9_mixRow_18 rfl 3 rfl ?_
    refine v_iadd dX9_mixRow_19 ?_
    refine v_gd (fun g20 => ?_)
    refine v_iald kc112 rfl g20 dX9_mixRow_20 ?_
    refine v_callVv (q := 111) (ci := 9) (C := RX9) (T := TX9) (NN := 24) (As := [.int (m0 112 (ix (x2 + x3)))]) (rest := []) (c_X9_mix l E m0 (m0 112 (ix (x2 + x3)))) kv_X9_mix kc111 (by decide) rfl q1156 ⟨rfl, rfl⟩ ⟨Nat.le_of_ble_eq_true rfl, Nat.le_of_ble_eq_true rfl⟩ ⟨Nat.zero_le _, Nat.zero_le _⟩ rfl rfl (Nat.le_of_ble_eq_true rfl) dX9_mixRow_21 (fun m1 _ => ?_)
    refine v_iinc (v := (x3 + 1)) (lv' := [(3, .int (x3 + 1)), (0, .ref (eAd E 111)), (1, .int x1), (2, .int x2)]) dX9_mixRow_24 3 rfl rfl (Nat.le_of_ble_eq_true rfl) rfl ?_
    refine v_goto (tgt := 2) dX9_mixRow_27 (by decide) ?_
    refine v_sub [1, 2, 3, 0] rfl ?_
    exact hrec_2 m1 x1 x2 (x3 + 1)
theorem w_X9_mixRow_2 (l : Launch) (E : EnvT) (N : Nat) : ∀ (n : Nat) (m0 : Mem) (x1 : Int32) (x2 : Int32) (x3 : Int32), V l E RX9 cX9_mixRow 4 none (rm_X9_mixRow) 0 0 (Zm E) rvV (f_X9_mixRow_2 N n m0 x1 x2 x3) m0 2 [(0, .ref (eAd E 111)), (1, .int x1), (2, .int x2), (3, .int x3)] [] := by
  intro n
  induction n with
  | zero => intros; exact v_none
  | succ n ih => exact w_X9_mixRow_2b l E N _ ih
def f_X9_mixRow (N : Nat) (m0 : Mem) (x1 : Int32) (x2 : Int32) : Option (Mem × Unit) := (f_X9_mixRow_2 N N m0 x1 x2 0)
theorem c_X9_mixRow (l : Launch) (E : EnvT) (N : Nat) (m0 : Mem) (x1 : Int32) (x2 : Int32) : CT l E yX9_mixRow cX9_mixRow 4 none (rm_X9_mixRow) rvV (f_X9_mixRow N m0 x1 x2) [.ref (eAd E 111), .int x1, .int x2] m0 := by
  refine CT.ofV (own := RX9) (by decide) rfl (Nat.le_of_ble_eq_true rfl) ?_
  show V l E RX9 cX9_mixRow 4 none (rm_X9_mixRow) 0 0 (Zm E) rvV _ m0 0 [(0, .ref (eAd E 111)), (1, .int x1), (2, .int x2)] []
  unfold f_X9_mixRow
  refine v_iconst (v := 0) dX9_mixRow_0 rfl ?_
  refine v_istore_n (lv' := [(3, .int 0), (0, .ref (eAd E 111)), (1, .int x1), (2, .int x2)]) dX9_mixRow_1 rfl (Nat.le_of_ble_eq_true rfl) rfl ?_
  refine v_sub [1, 2, 3, 0] rfl ?_
  exact w_X9_mixRow_2 l E N N m0 x1 x2 0

def rm_X9_digest : Room := { frames := 3, cells := 0, slots := 0, locals := 65 }
def f_X9_digest_123 (N : Nat) (rec_54 : Mem → Int32 → Option (Mem × Int64)) (m0 : Mem) (x1 : Int32) : Option (Mem × Int64) := (rec_54 m0 (x1 + 1))
theorem w_X9_digest_123 (l : Launch) (E : EnvT) (N : Nat) (rec_54 : Mem → Int32 → Option (Mem × Int64)) (hrec_54 : ∀ (m0 : Mem) (x1 : Int32), V l E RX9 cX9_digest 3 (some .long) (rm_X9_digest) 0 0 (Zm E) rvL (rec_54 m0 x1) m0 54 [(0, .ref (eAd E 111)), (1, .int x1)] []) (m0 : Mem) (x1 : Int32) : V l E RX9 cX9_digest 3 (some .long) (rm_X9_digest) 0 0 (Zm E) rvL (f_X9_digest_123 N rec_54 m0 x1) m0 123 [(0, .ref (eAd E 111)), (1, .int x1)] [] := by
  unfold f_X9_digest_123
  refine v_iinc (v := (x1 + 1)) (lv' := [(1, .int (x1 + 1)), (0, .ref (eAd E 111))]) dX9_digest_123 1 rfl rfl (Nat.le_of_ble_eq_true rfl) rfl ?_
  refine v_goto (tgt := 54) dX9_digest_126 (by decide) ?_
  refine v_sub [1, 0] rfl ?_
  exact hrec_54 m0 (x1 + 1)
def f_X9_digest_90b (N : Nat) (rec_54 : Mem → Int32 → Option (Mem × Int64)) (rec_90 : Mem → Int32 → Int32 → Option (Mem × Int64)) (m0 : Mem) (x1 : Int32) (x2 : Int32) : Option (Mem × Int64) := if 3 ≤ x2 then (f_X9_digest_123 N rec_54 m0 x1) else (bm (f_X9_isKind m0 x1 1) (fun m1 r1 => if r1 = 0 then (f_X9_digest_123 N rec_54 m1 x1) else (bm (f_X9_ofNode m1 x1 (6 + x2)) (fun m2 r2 => bm (f_X9_mix m2 r2) (fun m3 _ => (rec_90 m3 x1 (x2 + 1)))))))
def f_X9_digest_90 (N : Nat) (rec_54 : Mem → Int32 → Option (Mem × Int64)) : Nat → Mem → Int32 → Int32 → Option (Mem × Int64)
  | 0 => fun _ _ _ => none
  | n + 1 => f_X9_digest_90b N rec_54 (f_X9_digest_90 N rec_54 n)
theorem w_X9_digest_90b (l : Launch) (E : EnvT) (N : Nat) (rec_54 : Mem → Int32 → Option (Mem × Int64)) (hrec_54 : ∀ (m0 : Mem) (x1 : Int32), V l E RX9 cX9_digest 3 (some .long) (rm_X9_digest) 0 0 (Zm E) rvL (rec_54 m0 x1) m0 54 [(0, .ref (eAd E 111)), (1, .int x1)] []) (rec_90 : Mem → Int32 → Int32 → Option (Mem × Int64)) (hrec_90 : ∀ (m0 : Mem) (x1 : Int32) (x2 : Int32), V l E RX9 cX9_digest 3 (some .long) (rm_X9_digest) 0 0 (Zm E) rvL (rec_90 m0 x1 x2) m0 90 [(0, .ref (eAd E 111)), (1, .int x1), (2, .int x2)] []) (m0 : Mem) (x1 : Int32) (x2 : Int32) : V l E RX9 cX9_digest 3 (some .long) (rm_X9_digest) 0 0 (Zm E) rvL (f_X9_digest_90b N rec_54 rec_90 m0 x1 x2) m0 90 [(0, .ref (eAd E 111)), (1, .int x1), (2, .int x2)] [] := by
  unfold f_X9_digest_90b
  refine v_iload_n dX9_digest_90 rfl 2 rfl ?_
  refine v_iconst (v := 3) dX9_digest_91 rfl ?_
  refine v_icmp_ge (tgt := 123) dX9_digest_92 (by decide) ?_ ?_
  · refine v_sub [0, 1] rfl ?_
    exact w_X9_digest_123 l E N rec_54 hrec_54 m0 x1
  · refine v_aload_n dX9_digest_95 rfl 0 rfl ?_
    refine v_iload_n dX9_digest_96 rfl 1 rfl ?_
    refine v_iconst (v := 1) dX9_digest_97 rfl ?_
    refine v_callVi (q := 111) (ci := 9) (C := RX9) (T := TX9) (NN := 24) (As := [.int x1, .int 1]) (rest := []) (c_X9_isKind l E m0 x1 1) kv_X9_isKind kc111 (by decide) rfl q948 ⟨rfl, rfl⟩ ⟨Nat.le_of_ble_eq_true rfl, Nat.le_of_ble_eq_true rfl⟩ ⟨Nat.zero_le _, Nat.zero_le _⟩ rfl rfl (Nat.le_of_ble_eq_true rfl) dX9_digest_98 (fun m1 r1 => ?_)
    refine v_if_eq (tgt := 123) dX9_digest_101 (by decide) ?_ ?_
    · refine v_sub [0, 1] rfl ?_
      exact w_X9_digest_123 l E N rec_54 hrec_54 m1 x1
    · refine v_aload_n dX9_digest_104 rfl 0 rfl ?_
      refine v_aload_n dX9_digest_105 rfl 0 rfl ?_
      refine v_iload_n dX9_digest_106 rfl 1 rfl ?_
      refine v_bipush (v := 6) dX9_digest_107 rfl ?_
      refine v_iload_n dX9_digest_109 rfl 2 rfl ?_
      refine v_iadd dX9_digest_110 ?_
      refine v_callVi (q := 111) (ci := 9) (C := RX9) (T := TX9) (NN := 24) (As := [.int x1, .int (6 + x2)]) (rest := [.ref (eAd E 111)]) (c_X9_ofNode l E m1 x1 (6 + x2)) kv_X9_ofNode kc111 (by decide) rfl q915 ⟨rfl, rfl⟩ ⟨Nat.le_of_ble_eq_true rfl, Nat.le_of_ble_eq_true rfl⟩ ⟨Nat.zero_le _, Nat.zero_le _⟩ rfl rfl (Nat.le_of_ble_eq_true rfl) dX9_digest_111 (fun m2 r2 => ?_)
      refine v_callVv (q := 111) (ci := 9) (C := RX9) (T := TX9) (NN := 24) (As := [.int r2]) (rest := []) (c_X9_mix l E m2 r2) kv_X9_mix kc111 (by decide) rfl q1156 ⟨rfl, rfl⟩ ⟨Nat.le_of_ble_eq_true rfl, Nat.le_of_ble_eq_true rfl⟩ ⟨Nat.zero_le _, Nat.zero_le _⟩ rfl rfl (Nat.le_of_ble_eq_true rfl) dX9_digest_114 (fun m3 _ => ?_)
      refine v_iinc (v := (x2 + 1)) (lv' := [(2, .int (x2 + 1)), (0, .ref (eAd E 111)), (1, .int x1)]) dX9_digest_117 2 rfl rfl (Nat.le_of_ble_eq_true rfl) rfl ?_
      refine v_goto (tgt := 90) dX9_digest_120 (by decide) ?_
      refine v_sub [1, 2, 0] rfl ?_
      exact hrec_90 m3 x1 (x2 + 1)
theorem w_X9_digest_90 (l : Launch) (E : EnvT) (N : Nat) (rec_54 : Mem → Int32 → Option (Mem × Int64)) (hrec_54 : ∀ (m0 : Mem) (x1 : Int32), V l E RX9 cX9_digest 3 (some .long) (rm_X9_digest) 0 0 (Zm E) rvL (rec_54 m0 x1) m0 54 [(0, .ref (eAd E 111)), (1, .int x1)] []) : ∀ (n : Nat) (m0 : Mem) (x1 : Int32) (x2 : Int32), V l E RX9 cX9_digest 3 (some .long) (rm_X9_digest) 0 0 (Zm E) rvL (f_X9_digest_90 N rec_54 n m0 x1 x2) m0 90 [(0, .ref (eAd E 111)), (1, .int x1), (2, .int x2)] [] := by
  intro n
  induction n with
  | zero => intros; exact v_none
  | succ n ih => exact w_X9_digest_90b l E N rec_54 hrec_54 _ ih
def f_X9_digest_66b (N : Nat) (rec_54 : Mem → Int32 → Option (Mem × Int64)) (rec_66 : Mem → Int32 → Int32 → Option (Mem × Int64)) (m0 : Mem) (x1 : Int32) (x2 : Int32) : Option (Mem × Int64) := if 9 ≤ x2 then (f_X9_digest_90 N rec_54 N m0 x1 0) else (bm (f_X9_toldOfNode m0 x1 x2) (fun m1 r1 => bm (f_X9_mix m1 r1) (fun m2 _ => (rec_66 m2 x1 (x2 + 1)))))
def f_X9_digest_66 (N : Nat) (rec_54 : Mem → Int32 → Option (Mem × Int64)) : Nat → Mem → Int32 → Int32 → Option (Mem × Int64)
  | 0 => fun _ _ _ => none
  | n + 1 => f_X9_digest_66b N rec_54 (f_X9_digest_66 N rec_54 n)
theorem w_X9_digest_66b (l : Launch) (E : EnvT) (N : Nat) (rec_54 : Mem → Int32 → Option (Mem × Int64)) (hrec_54 : ∀ (m0 : Mem) (x1 : Int32), V l E RX9 cX9_digest 3 (some .long) (rm_X9_digest) 0 0 (Zm E) rvL (rec_54 m0 x1) m0 54 [(0, .ref (eAd E 111)), (1, .int x1)] []) (rec_66 : Mem → Int32 → Int32 → Option (Mem × Int64)) (hrec_66 : ∀ (m0 : Mem) (x1 : Int32) (x2 : Int32), V l E RX9 cX9_digest 3 (some .long) (rm_X9_digest) 0 0 (Zm E) rvL (rec_66 m0 x1 x2) m0 66 [(0, .ref (eAd E 111)), (1, .int x1), (2, .int x2)] []) (m0 : Mem) (x1 : Int32) (x2 : Int32) : V l E RX9 cX9_digest 3 (some .long) (rm_X9_digest) 0 0 (Zm E) rvL (f_X9_digest_66b N rec_54 rec_66 m0 x1 x2) m0 66 [(0, .ref (eAd E 111)), (1, .int x1), (2, .int x2)] [] := by
  unfold f_X9_digest_66b
  refine v_iload_n dX9_digest_66 rfl 2 rfl ?_
  refine v_bipush (v := 9) dX9_digest_67 rfl ?_
  refine v_icmp_ge (tgt := 88) dX9_digest_69 (by decide) ?_ ?_
  · refine v_iconst (v := 0) dX9_digest_88 rfl ?_
    refine v_istore_n (lv' := [(2, .int 0), (0, .ref (eAd E 111)), (1, .int x1)]) dX9_digest_89 rfl (Nat.le_of_ble_eq_true rfl) rfl ?_
    refine v_sub [1, 2, 0] rfl ?_
    exact w_X9_digest_90 l E N rec_54 hrec_54 N m0 x1 0
  · refine v_aload_n dX9_digest_72 rfl 0 rfl ?_
    refine v_aload_n dX9_digest_73 rfl 0 rfl ?_
    refine v_iload_n dX9_digest_74 rfl 1 rfl ?_
    refine v_iload_n dX9_digest_75 rfl 2 rfl ?_
    refine v_callVi (q := 111) (ci := 9) (C := RX9) (T := TX9) (NN := 24) (As := [.int x1, .int x2]) (rest := [.ref (eAd E 111)]) (c_X9_toldOfNode l E m0 x1 x2) kv_X9_toldOfNode kc111 (by decide) rfl q960 ⟨rfl, rfl⟩ ⟨Nat.le_of_ble_eq_true rfl, Nat.le_of_ble_eq_true rfl⟩ ⟨Nat.zero_le _, Nat.zero_le _⟩ rfl rfl (Nat.le_of_ble_eq_true rfl) dX9_digest_76 (fun m1 r1 => ?_)
    refine v_callVv (q := 111) (ci := 9) (C := RX9) (T := TX9) (NN := 24) (As := [.int r1]) (rest := []) (c_X9_mix l E m1 r1) kv_X9_mix kc111 (by decide) rfl q1156 ⟨rfl, rfl⟩ ⟨Nat.le_of_ble_eq_true rfl, Nat.le_of_ble_eq_true rfl⟩ ⟨Nat.zero_le _, Nat.zero_le _⟩ rfl rfl (Nat.le_of_ble_eq_true rfl) dX9_digest_79 (fun m2 _ => ?_)
    refine v_iinc (v := (x2 + 1)) (lv' := [(2, .int (x2 + 1)), (0, .ref (eAd E 111)), (1, .int x1)]) dX9_digest_82 2 rfl rfl (Nat.le_of_ble_eq_true rfl) rfl ?_
    refine v_goto (tgt := 66) dX9_digest_85 (by decide) ?_
    refine v_sub [1, 2, 0] rfl ?_
    exact hrec_66 m2 x1 (x2 + 1)
theorem w_X9_digest_66 (l : Launch) (E : EnvT) (N : Nat) (rec_54 : Mem → Int32 → Option (Mem × Int64)) (hrec_54 : ∀ (m0 : Mem) (x1 : Int32), V l E RX9 cX9_digest 3 (some .long) (rm_X9_digest) 0 0 (Zm E) rvL (rec_54 m0 x1) m0 54 [(0, .ref (eAd E 111)), (1, .int x1)] []) : ∀ (n : Nat) (m0 : Mem) (x1 : Int32) (x2 : Int32), V l E RX9 cX9_digest 3 (some .long) (rm_X9_digest) 0 0 (Zm E) rvL (f_X9_digest_66 N rec_54 n m0 x1 x2) m0 66 [(0, .ref (eAd E 111)), (1, .int x1), (2, .int x2)] [] := by
  intro n
  induction n with
  | zero => intros; exact v_none
  | succ n ih => exact w_X9_digest_66b l E N rec_54 hrec_54 _ ih
def f_X9_digest_54b (N : Nat) (rec_54 : Mem → Int32 → Option (Mem × Int64)) (m0 : Mem) (x1 : Int32) : Option (Mem × Int64) := gd (inR 0 347) (if (m0 112 (ix 0)) ≤ x1 then (bm (f_X9_mixRow N m0 11 17) (fun m1 _ => bm (f_X9_mixRow N m1 12 23) (fun m2 _ => bm (f_X9_mixRow N m2 9 13) (fun m3 _ => some (m3, (j64 (m3 111 23) (m3 111 24))))))) else (f_X9_digest_66 N rec_54 N m0 x1 0))
def f_X9_digest_54 (N : Nat) : Nat → Mem → Int32 → Option (Mem × Int64)
  | 0 => fun _ _ => none
  | n + 1 => f_X9_digest_54b N (f_X9_digest_54 N n)
theorem w_X9_digest_54b (l : Launch) (E : EnvT) (N : Nat) (rec_54 : Mem → Int32 → Option (Mem × Int64)) (hrec_54 : ∀ (m0 : Mem) (x1 : Int32), V l E RX9 cX9_digest 3 (some .long) (rm_X9_digest) 0 0 (Zm E) rvL (rec_54 m0 x1) m0 54 [(0, .ref (eAd E 111)), (1, .int x1)] []) (m0 : Mem) (x1 : Int32) : V l E RX9 cX9_digest 3 (some .long) (rm_X9_digest) 0 0 (Zm E) rvL (f_X9_digest_54b N rec_54 m0 x1) m0 54 [(0, .ref (eAd E 111)), (1, .int x1)] [] := by
  unfold f_X9_digest_54b
  refine v_iload_n dX9_digest_54 rfl 1 rfl ?_
  refine v_aload_n dX9_digest_55 rfl 0 rfl ?_
  refine gf_X9_now kc111 q822 dX9_digest_56 ?_
  refine v_iconst (v := 0) dX9_digest_59 rfl ?_
  refine v_gd (fun g60 => ?_)
  refine v_iald kc112 rfl g60 dX9_digest_60 ?_
  refine v_icmp_ge (tgt := 129) dX9_digest_61 (by decide) ?_ ?_
  · refine v_aload_n dX9_digest_129 rfl 0 rfl ?_
    refine v_bipush (v := 11) dX9_digest_130 rfl ?_
    refine v_bipush (v := 17) dX9_digest_132 rfl ?_
    refine v_callVv (q := 111) (ci := 9) (C := RX9) (T := TX9) (NN := 24) (As := [.int 11, .int 17]) (rest := []) (c_X9_mixRow l E N m0 11 17) kv_X9_mixRow kc111 (by decide) rfl q1161 ⟨rfl, rfl⟩ ⟨Nat.le_of_ble_eq_true rfl, Nat.le_of_ble_eq_true rfl⟩ ⟨Nat.zero_le _, Nat.zero_le _⟩ rfl rfl (Nat.le_of_ble_eq_true rfl) dX9_digest_134 (fun m1 _ => ?_)
    refine v_aload_n dX9_digest_137 rfl 0 rfl ?_
    refine v_bipush (v := 12) dX9_digest_138 rfl ?_
    refine v_bipush (v := 23) dX9_digest_140 rfl ?_
    refine v_callVv (q := 111) (ci := 9) (C := RX9) (T := TX9) (NN := 24) (As := [.int 12, .int 23]) (rest := []) (c_X9_mixRow l E N m1 12 23) kv_X9_mixRow kc111 (by decide) rfl q1161 ⟨rfl, rfl⟩ ⟨Nat.le_of_ble_eq_true rfl, Nat.le_of_ble_eq_true rfl⟩ ⟨Nat.zero_le _, Nat.zero_le _⟩ rfl rfl (Nat.le_of_ble_eq_true rfl) dX9_digest_142 (fun m2 _ => ?_)
    refine v_aload_n dX9_digest_145 rfl 0 rfl ?_
    refine v_bipush (v := 9) dX9_digest_146 rfl ?_
    refine v_bipush (v := 13) dX9_digest_148 rfl ?_
    refine v_callVv (q := 111) (ci := 9) (C := RX9) (T := TX9) (NN := 24) (As := [.int 9, .int 13]) (rest := []) (c_X9_mixRow l E N m2 9 13) kv_X9_mixRow kc111 (by decide) rfl q1161 ⟨rfl, rfl⟩ ⟨Nat.le_of_ble_eq_true rfl, Nat.le_of_ble_eq_true rfl⟩ ⟨Nat.zero_le _, Nat.zero_le _⟩ rfl rfl (Nat.le_of_ble_eq_true rfl) dX9_digest_150 (fun m3 _ => ?_)
    refine v_aload_n dX9_digest_153 rfl 0 rfl ?_
    refine gf_X9_h kc111 q845 dX9_digest_154 ?_
    exact v_lret dX9_digest_157
  · refine v_iconst (v := 0) dX9_digest_64 rfl ?_
    refine v_istore_n (lv' := [(2, .int 0), (0, .ref (eAd E 111)), (1, .int x1)]) dX9_digest_65 rfl (Nat.le_of_ble_eq_true rfl) rfl ?_
    refine v_sub [1, 2, 0] rfl ?_
    exact w_X9_digest_66 l E N rec_54 hrec_54 N m0 x1 0
theorem w_X9_digest_54 (l : Launch) (E : EnvT) (N : Nat) : ∀ (n : Nat) (m0 : Mem) (x1 : Int32), V l E RX9 cX9_digest 3 (some .long) (rm_X9_digest) 0 0 (Zm E) rvL (f_X9_digest_54 N n m0 x1) m0 54 [(0, .ref (eAd E 111)), (1, .int x1)] [] := by
  intro n
  induction n with
  | zero => intros; exact v_none
  | succ n ih => exact w_X9_digest_54b l E N _ ih
def f_X9_digest_31b (N : Nat) (rec_31 : Mem → Int32 → Option (Mem × Int64)) (m0 : Mem) (x1 : Int32) : Option (Mem × Int64) := if 14 ≤ x1 then (f_X9_digest_54 N N m0 0) else (bm (f_X9_stateOf m0 x1) (fun m1 r1 => bm (f_X9_mix m1 r1) (fun m2 _ => (rec_31 m2 (x1 + 1)))))
def f_X9_digest_31 (N : Nat) : Nat → Mem → Int32 → Option (Mem × Int64)
  | 0 => fun _ _ => none
  | n + 1 => f_X9_digest_31b N (f_X9_digest_31 N n)
theorem w_X9_digest_31b (l : Launch) (E : EnvT) (N : Nat) (rec_31 : Mem → Int32 → Option (Mem × Int64)) (hrec_31 : ∀ (m0 : Mem) (x1 : Int32), V l E RX9 cX9_digest 3 (some .long) (rm_X9_digest) 0 0 (Zm E) rvL (rec_31 m0 x1) m0 31 [(0, .ref (eAd E 111)), (1, .int x1)] []) (m0 : Mem) (x1 : Int32) : V l E RX9 cX9_digest 3 (some .long) (rm_X9_digest) 0 0 (Zm E) rvL (f_X9_digest_31b N rec_31 m0 x1) m0 31 [(0, .ref (eAd E 111)), (1, .int x1)] [] := by
  unfold f_X9_digest_31b
  refine v_iload_n dX9_digest_31 rfl 1 rfl ?_
  refine v_bipush (v := 14) dX9_digest_32 rfl ?_
  refine v_icmp_ge (tgt := 52) dX9_digest_34 (by decide) ?_ ?_
  · refine v_iconst (v := 0) dX9_digest_52 rfl ?_
    refine v_istore_n (lv' := [(1, .int 0), (0, .ref (eAd E 111))]) dX9_digest_53 rfl (Nat.le_of_ble_eq_true rfl) rfl ?_
    refine v_sub [1, 0] rfl ?_
    exact w_X9_digest_54 l E N N m0 0
  · refine v_aload_n dX9_digest_37 rfl 0 rfl ?_
    refine v_aload_n dX9_digest_38 rfl 0 rfl ?_
    refine v_iload_n dX9_digest_39 rfl 1 rfl ?_
    refine v_callVi (q := 111) (ci := 9) (C := RX9) (T := TX9) (NN := 24) (As := [.int x1]) (rest := [.ref (eAd E 111)]) (c_X9_stateOf l E m0 x1) kv_X9_stateOf kc111 (by decide) rfl q1115 ⟨rfl, rfl⟩ ⟨Nat.le_of_ble_eq_true rfl, Nat.le_of_ble_eq_true rfl⟩ ⟨Nat.zero_le _, Nat.zero_le _⟩ rfl rfl (Nat.le_of_ble_eq_true rfl) dX9_digest_40 (fun m1 r1 => ?_)
    refine v_callVv (q := 111) (ci := 9) (C := RX9) (T := TX9) (NN := 24) (As := [.int r1]) (rest := []) (c_X9_mix l E m1 r1) kv_X9_mix kc111 (by decide) rfl q1156 ⟨rfl, rfl⟩ ⟨Nat.le_of_ble_eq_true rfl, Nat.le_of_ble_eq_true rfl⟩ ⟨Nat.zero_le _, Nat.zero_le _⟩ rfl rfl (Nat.le_of_ble_eq_true rfl) dX9_digest_43 (fun m2 _ => ?_)
    refine v_iinc (v := (x1 + 1)) (lv' := [(1, .int (x1 + 1)), (0, .ref (eAd E 111))]) dX9_digest_46 1 rfl rfl (Nat.le_of_ble_eq_true rfl) rfl ?_
    refine v_goto (tgt := 31) dX9_digest_49 (by decide) ?_
    refine v_sub [1, 0] rfl ?_
    exact hrec_31 m2 (x1 + 1)
theorem w_X9_digest_31 (l : Launch) (E : EnvT) (N : Nat) : ∀ (n : Nat) (m0 : Mem) (x1 : Int32), V l E RX9 cX9_digest 3 (some .long) (rm_X9_digest) 0 0 (Zm E) rvL (f_X9_digest_31 N n m0 x1) m0 31 [(0, .ref (eAd E 111)), (1, .int x1)] [] := by
  intro n
  induction n with
  | zero => intros; exact v_none
  | succ n ih => exact w_X9_digest_31b l E N _ ih
def f_X9_digest_9b (N : Nat) (rec_9 : Mem → Int32 → Option (Mem × Int64)) (m0 : Mem) (x1 : Int32) : Option (Mem × Int64) := if 5 ≤ x1 then (f_X9_digest_31 N N m0 0) else (bm (f_X9_toldOf m0 x1) (fun m1 r1 => bm (f_X9_mix m1 r1) (fun m2 _ => (rec_9 m2 (x1 + 1)))))
def f_X9_digest_9 (N : Nat) : Nat → Mem → Int32 → Option (Mem × Int64)
  | 0 => fun _ _ => none
  | n + 1 => f_X9_digest_9b N (f_X9_digest_9 N n)
theorem w_X9_digest_9b (l : Launch) (E : EnvT) (N : Nat) (rec_9 : Mem → Int32 → Option (Mem × Int64)) (hrec_9 : ∀ (m0 : Mem) (x1 : Int32), V l E RX9 cX9_digest 3 (some .long) (rm_X9_digest) 0 0 (Zm E) rvL (rec_9 m0 x1) m0 9 [(0, .ref (eAd E 111)), (1, .int x1)] []) (m0 : Mem) (x1 : Int32) : V l E RX9 cX9_digest 3 (some .long) (rm_X9_digest) 0 0 (Zm E) rvL (f_X9_digest_9b N rec_9 m0 x1) m0 9 [(0, .ref (eAd E 111)), (1, .int x1)] [] := by
  unfold f_X9_digest_9b
  refine v_iload_n dX9_digest_9 rfl 1 rfl ?_
  refine v_iconst (v := 5) dX9_digest_10 rfl ?_
  refine v_icmp_ge (tgt := 29) dX9_digest_11 (by decide) ?_ ?_
  · refine v_iconst (v := 0) dX9_digest_29 rfl ?_
    refine v_istore_n (lv' := [(1, .int 0), (0, .ref (eAd E 111))]) dX9_digest_30 rfl (Nat.le_of_ble_eq_true rfl) rfl ?_
    refine v_sub [1, 0] rfl ?_
    exact w_X9_digest_31 l E N N m0 0
  · refine v_aload_n dX9_digest_14 rfl 0 rfl ?_
    refine v_aload_n dX9_digest_15 rfl 0 rfl ?_
    refine v_iload_n dX9_digest_16 rfl 1 rfl ?_
    refine v_callVi (q := 111) (ci := 9) (C := RX9) (T := TX9) (NN := 24) (As := [.int x1]) (rest := [.ref (eAd E 111)]) (c_X9_toldOf l E m0 x1) kv_X9_toldOf kc111 (by decide) rfl q1147 ⟨rfl, rfl⟩ ⟨Nat.le_of_ble_eq_true rfl, Nat.le_of_ble_eq_true rfl⟩ ⟨Nat.zero_le _, Nat.zero_le _⟩ rfl rfl (Nat.le_of_ble_eq_true rfl) dX9_digest_17 (fun m1 r1 => ?_)
    refine v_callVv (q := 111) (ci := 9) (C := RX9) (T := TX9) (NN := 24) (As := [.int r1]) (rest := []) (c_X9_mix l E m1 r1) kv_X9_mix kc111 (by decide) rfl q1156 ⟨rfl, rfl⟩ ⟨Nat.le_of_ble_eq_true rfl, Nat.le_of_ble_eq_true rfl⟩ ⟨Nat.zero_le _, Nat.zero_le _⟩ rfl rfl (Nat.le_of_ble_eq_true rfl) dX9_digest_20 (fun m2 _ => ?_)
    refine v_iinc (v := (x1 + 1)) (lv' := [(1, .int (x1 + 1)), (0, .ref (eAd E 111))]) dX9_digest_23 1 rfl rfl (Nat.le_of_ble_eq_true rfl) rfl ?_
    refine v_goto (tgt := 9) dX9_digest_26 (by decide) ?_
    refine v_sub [1, 0] rfl ?_
    exact hrec_9 m2 (x1 + 1)
theorem w_X9_digest_9 (l : Launch) (E : EnvT) (N : Nat) : ∀ (n : Nat) (m0 : Mem) (x1 : Int32), V l E RX9 cX9_digest 3 (some .long) (rm_X9_digest) 0 0 (Zm E) rvL (f_X9_digest_9 N n m0 x1) m0 9 [(0, .ref (eAd E 111)), (1, .int x1)] [] := by
  intro n
  induction n with
  | zero => intros; exact v_none
  | succ n ih => exact w_X9_digest_9b l E N _ ih
def f_X9_digest (N : Nat) (m0 : Mem) : Option (Mem × Int64) := lm (up (up m0 111 23 (lo32 2783)) 111 24 (hi32 2783)) (fun m1 => (f_X9_digest_9 N N m1 0))
theorem c_X9_digest (l : Launch) (E : EnvT) (N : Nat) (m0 : Mem) : CT l E yX9_digest cX9_digest 3 (some .long) (rm_X9_digest) rvL (f_X9_digest N m0) [.ref (eAd E 111)] m0 := by
  refine CT.ofV (own := RX9) (by decide) rfl (Nat.le_of_ble_eq_true rfl) ?_
  show V l E RX9 cX9_digest 3 (some .long) (rm_X9_digest) 0 0 (Zm E) rvL _ m0 0 [(0, .ref (eAd E 111))] []
  unfold f_X9_digest
  refine v_aload_n dX9_digest_0 rfl 0 rfl ?_
  refine v_ldc2 q1155 dX9_digest_1 ?_
  refine pf_X9_h kc111 q845 dX9_digest_4 (fun m1 => ?_)
  refine v_iconst (v := 0) dX9_digest_7 rfl ?_
  refine v_istore_n (lv' := [(1, .int 0), (0, .ref (eAd E 111))]) dX9_digest_8 rfl (Nat.le_of_ble_eq_true rfl) rfl ?_
  refine v_sub [1, 0] rfl ?_
  exact w_X9_digest_9 l E N N m1 0
