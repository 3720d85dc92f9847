def f_L_law_626 (N : Nat) (L : Nat) (xs : Nat → Int32) (rec_18 : Mem → Int32 → Option (Mem × Int32)) (m0 : Mem) (x3 : Int32) : Option (Mem × Int32) := (rec_18 m0 (x3 + 5))
theorem w_L_law_626 (l : Launch) (E : EnvT) (N : Nat) (L : Nat) (xs : Nat → Int32) (b : Nat) (rec_18 : Mem → Int32 → Option (Mem × Int32)) (hrec_18 : ∀ (m0 : Mem) (x3 : Int32), V l E RL code 4 ret room_1 124 3882 (Zlaw E b L xs) rvI (rec_18 m0 x3) m0 18 [(0, .ref b), (1, .ref (eAd E 0)), (2, .ref (eAd E 111)), (3, .int x3)] []) (m0 : Mem) (x3 : Int32) : V l E RL code 4 ret room_1 124 3882 (Zlaw E b L xs) rvI (f_L_law_626 N L xs rec_18 m0 x3) m0 626 [(0, .ref b), (1, .ref (eAd E 0)), (2, .ref (eAd E 111)), (3, .int x3)] [] := by
  unfold f_L_law_626
  refine v_iinc (v := (x3 + 5)) (lv' := [(3, .int (x3 + 5)), (0, .ref b), (1, .ref (eAd E 0)), (2, .ref (eAd E 111))]) dL_law_626 3 rfl rfl (Nat.le_of_ble_eq_true rfl) rfl ?_
  refine v_goto (tgt := 18) dL_law_629 (by decide) ?_
  refine v_sub [1, 2, 3, 0] rfl ?_
  exact hrec_18 m0 (x3 + 5)
def f_L_law_18b (N : Nat) (L : Nat) (xs : Nat → Int32) (rec_18 : Mem → Int32 → Option (Mem × Int32)) (m0 : Mem) (x3 : Int32) : Option (Mem × Int32) := if ((Int32.ofNat L) - 5) < x3 then (some (m0, 1)) else (gd (inR x3 L) (if ((xs (ix x3)) &&& 31) = 0 then (gd (inR (x3 + 1) L) (gd (inR (x3 + 2) L) (gd (inR (x3 + 3) L) (gd (inR (x3 + 4) L) (bm (f_X8_node N m0 (xs (ix (x3 + 1))) (xs (ix (x3 + 2))) (xs (ix (x3 + 3))) (xs (ix (x3 + 4)))) (fun m1 r1 => gd (inR (x3 + 1) L) (gd (inR (x3 + 2) L) (gd (inR (x3 + 3) L) (gd (inR (x3 + 4) L) (bm (f_X9_node N m1 (xs (ix (x3 + 1))) (xs (ix (x3 + 2))) (xs (ix (x3 + 3))) (xs (ix (x3 + 4)))) (fun m2 r2 => if r1 = r2 then (f_L_law_626 N L xs rec_18 m2 x3) else (some (m2, 0))))))))))))) else (if ((xs (ix x3)) &&& 31) = 1 then (gd (inR (x3 + 1) L) (gd (inR (x3 + 2) L) (gd (inR (x3 + 3) L) (bm (f_X8_range N m0 (xs (ix (x3 + 1))) (xs (ix (x3 + 2))) (xs (ix (x3 + 3)))) (fun m3 r3 => gd (inR (x3 + 1) L) (gd (inR (x3 + 2) L) (gd (inR (x3 + 3) L) (bm (f_X9_range N m3 (xs (ix (x3 + 1))) (xs (ix (x3 + 2))) (xs (ix (x3 + 3)))) (fun m4 r4 => if r3 = r4 then (f_L_law_626 N L xs rec_18 m4 x3) else (some (m4, 0))))))))))) else (if ((xs (ix x3)) &&& 31) = 2 then (gd (inR (x3 + 1) L) (gd (inR (x3 + 2) L) (bm (f_X8_of m0 (xs (ix (x3 + 1))) (xs (ix (x3 + 2)))) (fun m5 r5 => gd (inR (x3 + 1) L) (gd (inR (x3 + 2) L) (bm (f_X9_of m5 (xs (ix (x3 + 1))) (xs (ix (x3 + 2)))) (fun m6 r6 => if r5 = r6 then (f_L_law_626 N L xs rec_18 m6 x3) else (some (m6, 0))))))))) else (if ((xs (ix x3)) &&& 31) = 3 then (gd (inR (x3 + 1) L) (gd (inR (x3 + 2) L) (bm (f_X8_value m0 (xs (ix (x3 + 1))) (xs (ix (x3 + 2)))) (fun m7 r7 => gd (inR (x3 + 1) L) (gd (inR (x3 + 2) L) (bm (f_X9_value m7 (xs (ix (x3 + 1))) (xs (ix (x3 + 2)))) (fun m8 r8 => if r7 = r8 then (f_L_law_626 N L xs rec_18 m8 x3) else (some (m8, 0))))))))) else (if ((xs (ix x3)) &&& 31) = 4 then (gd (inR (x3 + 1) L) (bm (f_X8_type m0 (xs (ix (x3 + 1)))) (fun m9 r9 => gd (inR (x3 + 1) L) (bm (f_X9_type m9 (xs (ix (x3 + 1)))) (fun m10 r10 => if r9 = r10 then (f_L_law_626 N L xs rec_18 m10 x3) else (some (m10, 0))))))) else (if ((xs (ix x3)) &&& 31) = 5 then (bm (f_X8_clear m0) (fun m11 r11 => bm (f_X9_clear m11) (fun m12 r12 => if r11 = r12 then (f_L_law_626 N L xs rec_18 m12 x3) else (some (m12, 0))))) else (if ((xs (ix x3)) &&& 31) = 6 then (bm (f_X8_sends N m0) (fun m13 r13 => bm (f_X9_sends N m13) (fun m14 r14 => if r13 = r14 then (f_L_law_626 N L xs rec_18 m14 x3) else (some (m14, 0))))) else (if ((xs (ix x3)) &&& 31) = 7 then (bm (f_X8_finds N m0) (fun m15 r15 => bm (f_X9_finds N m15) (fun m16 r16 => if r15 = r16 then (f_L_law_626 N L xs rec_18 m16 x3) else (some (m16, 0))))) else (if ((xs (ix x3)) &&& 31) = 8 then (bm (f_X8_answer N m0) (fun m17 r17 => bm (f_X9_answer N m17) (fun m18 r18 => if r17 = r18 then (f_L_law_626 N L xs rec_18 m18 x3) else (some (m18, 0))))) else (if ((xs (ix x3)) &&& 31) = 9 then (bm (f_X8_fault N m0) (fun m19 r19 => bm (f_X9_fault N m19) (fun m20 r20 => if r19 = r20 then (f_L_law_626 N L xs rec_18 m20 x3) else (some (m20, 0))))) else (if ((xs (ix x3)) &&& 31) = 10 then (gd (inR (x3 + 1) L) (gd (inR (x3 + 2) L) (bm (f_X8_condition N m0 (xs (ix (x3 + 1))) (xs (ix (x3 + 2)))) (fun m21 r21 => gd (inR (x3 + 1) L) (gd (inR (x3 + 2) L) (bm (f_X9_condition N m21 (xs (ix (x3 + 1))) (xs (ix (x3 + 2)))) (fun m22 r22 => if r21 = r22 then (f_L_law_626 N L xs rec_18 m22 x3) else (some (m22, 0))))))))) else (if ((xs (ix x3)) &&& 31) = 11 then (gd (inR (x3 + 1) L) (gd (inR (x3 + 2) L) (bm (f_X8_masks N m0 (xs (ix (x3 + 1))) (xs (ix (x3 + 2)))) (fun m23 r23 => gd (inR (x3 + 1) L) (gd (inR (x3 + 2) L) (bm (f_X9_masks N m23 (xs (ix (x3 + 1))) (xs (ix (x3 + 2)))) (fun m24 r24 => if r23 = r24 then (f_L_law_626 N L xs rec_18 m24 x3) else (some (m24, 0))))))))) else (if ((xs (ix x3)) &&& 31) = 12 then (bm (f_X8_edges N m0) (fun m25 r25 => bm (f_X9_edges N m25) (fun m26 r26 => if r25 = r26 then (f_L_law_626 N L xs rec_18 m26 x3) else (some (m26, 0))))) else (if ((xs (ix x3)) &&& 31) = 13 then (gd (inR (x3 + 1) L) (bm (f_X8_finishes N m0 (xs (ix (x3 + 1)))) (fun m27 r27 => gd (inR (x3 + 1) L) (bm (f_X9_finishes N m27 (xs (ix (x3 + 1)))) (fun m28 r28 => if r27 = r28 then (f_L_law_626 N L xs rec_18 m28 x3) else (some (m28, 0))))))) else (if ((xs (ix x3)) &&& 31) = 14 then (gd (inR (x3 + 1) L) (bm (f_X8_state m0 (xs (ix (x3 + 1)))) (fun m29 r29 => gd (inR (x3 + 1) L) (bm (f_X9_state m29 (xs (ix (x3 + 1)))) (fun m30 r30 => if r29 = r30 then (f_L_law_626 N L xs rec_18 m30 x3) else (some (m30, 0))))))) else (if ((xs (ix x3)) &&& 31) = 15 then (gd (inR (x3 + 1) L) (bm (f_X8_answers m0 (xs (ix (x3 + 1)))) (fun m31 r31 => gd (inR (x3 + 1) L) (bm (f_X9_answers m31 (xs (ix (x3 + 1)))) (fun m32 r32 => if r31 = r32 then (f_L_law_626 N L xs rec_18 m32 x3) else (some (m32, 0))))))) else (if ((xs (ix x3)) &&& 31) = 16 then (gd (inR (x3 + 1) L) (bm (f_X8_faults m0 (xs (ix (x3 + 1)))) (fun m33 r33 => gd (inR (x3 + 1) L) (bm (f_X9_faults m33 (xs (ix (x3 + 1)))) (fun m34 r34 => if r33 = r34 then (f_L_law_626 N L xs rec_18 m34 x3) else (some (m34, 0))))))) else (if ((xs (ix x3)) &&& 31) = 17 then (gd (inR (x3 + 1) L) (bm (f_X8_pending m0 (xs (ix (x3 + 1)))) (fun m35 r35 => gd (inR (x3 + 1) L) (bm (f_X9_pending m35 (xs (ix (x3 + 1)))) (fun m36 r36 => if r35 = r36 then (f_L_law_626 N L xs rec_18 m36 x3) else (some (m36, 0))))))) else (if ((xs (ix x3)) &&& 31) = 18 then (bm (f_X8_back N m0) (fun m37 r37 => bm (f_X9_back N m37) (fun m38 r38 => if r37 = r38 then (f_L_law_626 N L xs rec_18 m38 x3) else (some (m38, 0))))) else (if ((xs (ix x3)) &&& 31) = 19 then (gd (inR (x3 + 1) L) (bm (f_X8_told m0 (xs (ix (x3 + 1)))) (fun m39 r39 => gd (inR (x3 + 1) L) (bm (f_X9_told m39 (xs (ix (x3 + 1)))) (fun m40 r40 => if r39 = r40 then (f_L_law_626 N L xs rec_18 m40 x3) else (some (m40, 0))))))) else (if ((xs (ix x3)) &&& 31) = 20 then (bm (f_X8_digest N m0) (fun m41 r41 => bm (f_X9_digest N m41) (fun m42 r42 => if (lg_cmp r41 r42) = 0 then (f_L_law_626 N L xs rec_18 m42 x3) else (some (m42, 0))))) else (f_L_law_626 N L xs rec_18 m0 x3)))))))))))))))))))))))
def f_L_law_18 (N : Nat) (L : Nat) (xs : Nat → Int32) : Nat → Mem → Int32 → Option (Mem × Int32)
  | 0 => fun _ _ => none
  | n + 1 => f_L_law_18b N L xs (f_L_law_18 N L xs n)
theorem w_L_law_18b (l : Launch) (E : EnvT) (N : Nat) (L : Nat) (xs : Nat → Int32) (b : Nat) (rec_18 : Mem → Int32 → Option (Mem × Int32)) (hrec_18 : ∀ (m0 : Mem) (x3 : Int32), V l E RL code 4 ret room_1 124 3882 (Zlaw E b L xs) rvI (rec_18 m0 x3) m0 18 [(0, .ref b), (1, .ref (eAd E 0)), (2, .ref (eAd E 111)), (3, .int x3)] []) (m0 : Mem) (x3 : Int32) : V l E RL code 4 ret room_1 124 3882 (Zlaw E b L xs) rvI (f_L_law_18b N L xs rec_18 m0 x3) m0 18 [(0, .ref b), (1, .ref (eAd E 0)), (2, .ref (eAd E 111)), (3, .int x3)] [] := by
  unfold f_L_law_18b
  refine v_iload_n dL_law_18 rfl 3 rfl ?_
  refine v_aload_n dL_law_19 rfl 0 rfl ?_
  refine v_sLen dL_law_20 ?_
  refine v_iconst (v := 5) dL_law_21 rfl ?_
  refine v_isub dL_law_22 ?_
  refine v_icmp_gt (tgt := 632) dL_law_23 (by decide) ?_ ?_
  · refine v_iconst (v := 1) dL_law_632 rfl ?_
    exact v_sRet (Nat.le_of_ble_eq_true rfl) (Nat.le_of_ble_eq_true rfl) dL_law_633
  · refine v_aload_n dL_law_26 rfl 0 rfl ?_
    refine v_iload_n dL_law_27 rfl 3 rfl ?_
    refine v_gd (fun g28 => ?_)
    refine v_sLd g28 dL_law_28 ?_
    refine v_bipush (v := 31) dL_law_29 rfl ?_
    refine v_iand dL_law_31 ?_
    refine v_tcase (k := 0) (tgt := 132) dL_law_32 (by decide) (by decide) rfl (by decide) ?_ (fun n32_0 => ?_)
    · refine v_aload_n dL_law_132 rfl 1 rfl ?_
      refine v_aload_n dL_law_133 rfl 0 rfl ?_
      refine v_iload_n dL_law_134 rfl 3 rfl ?_
      refine v_iconst (v := 1) dL_law_135 rfl ?_
      refine v_iadd dL_law_136 ?_
      refine v_gd (fun g137 => ?_)
      refine v_sLd g137 dL_law_137 ?_
      refine v_aload_n dL_law_138 rfl 0 rfl ?_
      refine v_iload_n dL_law_139 rfl 3 rfl ?_
      refine v_iconst (v := 2) dL_law_140 rfl ?_
      refine v_iadd dL_law_141 ?_
      refine v_gd (fun g142 => ?_)
      refine v_sLd g142 dL_law_142 ?_
      refine v_aload_n dL_law_143 rfl 0 rfl ?_
      refine v_iload_n dL_law_144 rfl 3 rfl ?_
      refine v_iconst (v := 3) dL_law_145 rfl ?_
      refine v_iadd dL_law_146 ?_
      refine v_gd (fun g147 => ?_)
      refine v_sLd g147 dL_law_147 ?_
      refine v_aload_n dL_law_148 rfl 0 rfl ?_
      refine v_iload_n dL_law_149 rfl 3 rfl ?_
      refine v_iconst (v := 4) dL_law_150 rfl ?_
      refine v_iadd dL_law_151 ?_
      refine v_gd (fun g152 => ?_)
      refine v_sLd g152 dL_law_152 ?_
      refine v_callVi (q := 0) (ci := 8) (C := RX8) (T := TX8) (NN := 8) (As := [.int (xs (ix (x3 + 1))), .int (xs (ix (x3 + 2))), .int (xs (ix (x3 + 3))), .int (xs (ix (x3 + 4)))]) (rest := []) (c_X8_node l E N m0 (xs (ix (x3 + 1))) (xs (ix (x3 + 2))) (xs (ix (x3 + 3))) (xs (ix (x3 + 4)))) kv_X8_node kc0 (by decide) rfl q358 ⟨rfl, rfl⟩ ⟨Nat.le_of_ble_eq_true rfl, Nat.le_of_ble_eq_true rfl⟩ ⟨Nat.le_of_ble_eq_true rfl, Nat.le_of_ble_eq_true rfl⟩ rfl rfl (Nat.le_of_ble_eq_true rfl) dL_law_153 (fun m1 r1 => ?_)
      refine v_aload_n dL_law_156 rfl 2 rfl ?_
      refine v_aload_n dL_law_157 rfl 0 rfl ?_
      refine v_iload_n dL_law_158 rfl 3 rfl ?_
      refine v_iconst (v := 1) dL_law_159 rfl ?_
      refine v_iadd dL_law_160 ?_
      refine v_gd (fun g161 => ?_)
      refine v_sLd g161 dL_law_161 ?_
      refine v_aload_n dL_law_162 rfl 0 rfl ?_
      refine v_iload_n dL_law_163 rfl 3 rfl ?_
      refine v_iconst (v := 2) dL_law_164 rfl ?_
      refine v_iadd dL_law_165 ?_
      refine v_gd (fun g166 => ?_)
      refine v_sLd g166 dL_law_166 ?_
      refine v_aload_n dL_law_167 rfl 0 rfl ?_
      refine v_iload_n dL_law_168 rfl 3 rfl ?_
      refine v_iconst (v := 3) dL_law_169 rfl ?_
      refine v_iadd dL_law_170 ?_
      refine v_gd (fun g171 => ?_)
      refine v_sLd g171 dL_law_171 ?_
      refine v_aload_n dL_law_172 rfl 0 rfl ?_
      refine v_iload_n dL_law_173 rfl 3 rfl ?_
      refine v_iconst (v := 4) dL_law_174 rfl ?_
      refine v_iadd dL_law_175 ?_
      refine v_gd (fun g176 => ?_)
      refine v_sLd g176 dL_law_176 ?_
      refine v_callVi (q := 111) (ci := 9) (C := RX9) (T := TX9) (NN := 24) (As := [.int (xs (ix (x3 + 1))), .int (xs (ix (x3 + 2))), .int (xs (ix (x3 + 3))), .int (xs (ix (x3 + 4)))]) (rest := [.int r1]) (c_X9_node l E N m1 (xs (ix (x3 + 1))) (xs (ix (x3 + 2))) (xs (ix (x3 + 3))) (xs (ix (x3 + 4)))) kv_X9_node kc111 (by decide) rfl q904 ⟨rfl, rfl⟩ ⟨Nat.le_of_ble_eq_true rfl, Nat.le_of_ble_eq_true rfl⟩ ⟨Nat.le_of_ble_eq_true rfl, Nat.le_of_ble_eq_true rfl⟩ rfl rfl (Nat.le_of_ble_eq_true rfl) dL_law_177 (fun m2 r2 => ?_)
      refine v_icmp_eq (tgt := 626) dL_law_180 (by decide) ?_ ?_
      · exact w_L_law_626 l E N L xs b rec_18 hrec_18 m2 x3
      · refine v_iconst (v := 0) dL_law_183 rfl ?_
        exact v_sRet (Nat.le_of_ble_eq_true rfl) (Nat.le_of_ble_eq_true rfl) dL_law_184
    refine v_tcase (k := 1) (tgt := 185) dL_law_32 (by decide) (by decide) rfl (by decide) ?_ (fun n32_1 => ?_)
    · refine v_aload_n dL_law_185 rfl 1 rfl ?_
      refine v_aload_n dL_law_186 rfl 0 rfl ?_
      refine v_iload_n dL_law_187 rfl 3 rfl ?_
      refine v_iconst (v := 1) dL_law_188 rfl ?_
      refine v_iadd dL_law_189 ?_
      refine v_gd (fun g190 => ?_)
      refine v_sLd g190 dL_law_190 ?_
      refine v_aload_n dL_law_191 rfl 0 rfl ?_
      refine v_iload_n dL_law_192 rfl 3 rfl ?_
      refine v_iconst (v := 2) dL_law_193 rfl ?_
      refine v_iadd dL_law_194 ?_
      refine v_gd (fun g195 => ?_)
      refine v_sLd g195 dL_law_195 ?_
      refine v_aload_n dL_law_196 rfl 0 rfl ?_
      refine v_iload_n dL_law_197 rfl 3 rfl ?_
      refine v_iconst (v := 3) dL_law_198 rfl ?_
      refine v_iadd dL_law_199 ?_
      refine v_gd (fun g200 => ?_)
      refine v_sLd g200 dL_law_200 ?_
      refine v_callVi (q := 0) (ci := 8) (C := RX8) (T := TX8) (NN := 8) (As := [.int (xs (ix (x3 + 1))), .int (xs (ix (x3 + 2))), .int (xs (ix (x3 + 3)))]) (rest := []) (c_X8_range l E N m0 (xs (ix (x3 + 1))) (xs (ix (x3 + 2))) (xs (ix (x3 + 3)))) kv_X8_range kc0 (by decide) rfl q433 ⟨rfl, rfl⟩ ⟨Nat.le_of_ble_eq_true rfl, Nat.le_of_ble_eq_true rfl⟩ ⟨Nat.le_of_ble_eq_true rfl, Nat.le_of_ble_eq_true rfl⟩ rfl rfl (Nat.le_of_ble_eq_true rfl) dL_law_201 (fun m3 r3 => ?_)
      refine v_aload_n dL_law_204 rfl 2 rfl ?_
      refine v_aload_n dL_law_205 rfl 0 rfl ?_
      refine v_iload_n dL_law_206 rfl 3 rfl ?_
      refine v_iconst (v := 1) dL_law_207 rfl ?_
      refine v_iadd dL_law_208 ?_
      refine v_gd (fun g209 => ?_)
      refine v_sLd g209 dL_law_209 ?_
      refine v_aload_n dL_law_210 rfl 0 rfl ?_
      refine v_iload_n dL_law_211 rfl 3 rfl ?_
      refine v_iconst (v := 2) dL_law_212 rfl ?_
      refine v_iadd dL_law_213 ?_
      refine v_gd (fun g214 => ?_)
      refine v_sLd g214 dL_law_214 ?_
      refine v_aload_n dL_law_215 rfl 0 rfl ?_
      refine v_iload_n dL_law_216 rfl 3 rfl ?_
      refine v_iconst (v := 3) dL_law_217 rfl ?_
      refine v_iadd dL_law_218 ?_
      refine v_gd (fun g219 => ?_)
      refine v_sLd g219 dL_law_219 ?_
      refine v_callVi (q := 111) (ci := 9) (C := RX9) (T := TX9) (NN := 24) (As := [.int (xs (ix (x3 + 1))), .int (xs (ix (x3 + 2))), .int (xs (ix (x3 + 3)))]) (rest := [.int r3]) (c_X9_range l E N m3 (xs (ix (x3 + 1))) (xs (ix (x3 + 2))) (xs (ix (x3 + 3)))) kv_X9_range kc111 (by decide) rfl q944 ⟨rfl, rfl⟩ ⟨Nat.le_of_ble_eq_true rfl, Nat.le_of_ble_eq_true rfl⟩ ⟨Nat.le_of_ble_eq_true rfl, Nat.le_of_ble_eq_true rfl⟩ rfl rfl (Nat.le_of_ble_eq_true rfl) dL_law_220 (fun m4 r4 => ?_)
      refine v_icmp_eq (tgt := 626) dL_law_223 (by decide) ?_ ?_
      · exact w_L_law_626 l E N L xs b rec_18 hrec_18 m4 x3
      · refine v_iconst (v := 0) dL_law_226 rfl ?_
        exact v_sRet (Nat.le_of_ble_eq_true rfl) (Nat.le_of_ble_eq_true rfl) dL_law_227
    refine v_tcase (k := 2) (tgt := 228) dL_law_32 (by decide) (by decide) rfl (by decide) ?_ (fun n32_2 => ?_)
    · refine v_aload_n dL_law_228 rfl 1 rfl ?_
      refine v_aload_n dL_law_229 rfl 0 rfl ?_
      refine v_iload_n dL_law_230 rfl 3 rfl ?_
      refine v_iconst (v := 1) dL_law_231 rfl ?_
      refine v_iadd dL_law_232 ?_
      refine v_gd (fun g233 => ?_)
      refine v_sLd g233 dL_law_233 ?_
      refine v_aload_n dL_law_234 rfl 0 rfl ?_
      refine v_iload_n dL_law_235 rfl 3 rfl ?_
      refine v_iconst (v := 2) dL_law_236 rfl ?_
      refine v_iadd dL_law_237 ?_
      refine v_gd (fun g238 => ?_)
      refine v_sLd g238 dL_law_238 ?_
      refine v_callVi (q := 0) (ci := 8) (C := RX8) (T := TX8) (NN := 8) (As := [.int (xs (ix (x3 + 1))), .int (xs (ix (x3 + 2)))]) (rest := []) (c_X8_of l E m0 (xs (ix (x3 + 1))) (xs (ix (x3 + 2)))) kv_X8_of kc0 (by decide) rfl q442 ⟨rfl, rfl⟩ ⟨Nat.le_of_ble_eq_true rfl, Nat.le_of_ble_eq_true rfl⟩ ⟨Nat.le_of_ble_eq_true rfl, Nat.le_of_ble_eq_true rfl⟩ rfl rfl (Nat.le_of_ble_eq_true rfl) dL_law_239 (fun m5 r5 => ?_)
      refine v_aload_n dL_law_242 rfl 2 rfl ?_
      refine v_aload_n dL_law_243 rfl 0 rfl ?_
      refine v_iload_n dL_law_244 rfl 3 rfl ?_
      refine v_iconst (v := 1) dL_law_245 rfl ?_
      refine v_iadd dL_law_246 ?_
      refine v_gd (fun g247 => ?_)
      refine v_sLd g247 dL_law_247 ?_
      refine v_aload_n dL_law_248 rfl 0 rfl ?_
      refine v_iload_n dL_law_249 rfl 3 rfl ?_
      refine v_iconst (v := 2) dL_law_250 rfl ?_
      refine v_iadd dL_law_251 ?_
      refine v_gd (fun g252 => ?_)
      refine v_sLd g252 dL_law_252 ?_
      refine v_callVi (q := 111) (ci := 9) (C := RX9) (T := TX9) (NN := 24) (As := [.int (xs (ix (x3 + 1))), .int (xs (ix (x3 + 2)))]) (rest := [.int r5]) (c_X9_of l E m5 (xs (ix (x3 + 1))) (xs (ix (x3 + 2)))) kv_X9_of kc111 (by decide) rfl q956 ⟨rfl, rfl⟩ ⟨Nat.le_of_ble_eq_true rfl, Nat.le_of_ble_eq_true rfl⟩ ⟨Nat.le_of_ble_eq_true rfl, Nat.le_of_ble_eq_true rfl⟩ rfl rfl (Nat.le_of_ble_eq_true rfl) dL_law_253 (fun m6 r6 => ?_)
      refine v_icmp_eq (tgt := 626) dL_law_256 (by decide) ?_ ?_
      · exact w_L_law_626 l E N L xs b rec_18 hrec_18 m6 x3
      · refine v_iconst (v := 0) dL_law_259 rfl ?_
        exact v_sRet (Nat.le_of_ble_eq_true rfl) (Nat.le_of_ble_eq_true rfl) dL_law_260
    refine v_tcase (k := 3) (tgt := 261) dL_law_32 (by decide) (by decide) rfl (by decide) ?_ (fun n32_3 => ?_)
    · refine v_aload_n dL_law_261 rfl 1 rfl ?_
      refine v_aload_n dL_law_262 rfl 0 rfl ?_
      refine v_iload_n dL_law_263 rfl 3 rfl ?_
      refine v_iconst (v := 1) dL_law_264 rfl ?_
      refine v_iadd dL_law_265 ?_
      refine v_gd (fun g266 => ?_)
      refine v_sLd g266 dL_law_266 ?_
      refine v_aload_n dL_law_267 rfl 0 rfl ?_
      refine v_iload_n dL_law_268 rfl 3 rfl ?_
      refine v_iconst (v := 2) dL_law_269 rfl ?_
      refine v_iadd dL_law_270 ?_
      refine v_gd (fun g271 => ?_)
      refine v_sLd g271 dL_law_271 ?_
      refine v_callVi (q := 0) (ci := 8) (C := RX8) (T := TX8) (NN := 8) (As := [.int (xs (ix (x3 + 1))), .int (xs (ix (x3 + 2)))]) (rest := []) (c_X8_value l E m0 (xs (ix (x3 + 1))) (xs (ix (x3 + 2)))) kv_X8_value kc0 (by decide) rfl q450 ⟨rfl, rfl⟩ ⟨Nat.le_of_ble_eq_true rfl, Nat.le_of_ble_eq_true rfl⟩ ⟨Nat.le_of_ble_eq_true rfl, Nat.le_of_ble_eq_true rfl⟩ rfl rfl (Nat.le_of_ble_eq_true rfl) dL_law_272 (fun m7 r7 => ?_)
      refine v_aload_n dL_law_275 rfl 2 rfl ?_
      refine v_aload_n dL_law_276 rfl 0 rfl ?_
      refine v_iload_n dL_law_277 rfl 3 rfl ?_
      refine v_iconst (v := 1) dL_law_278 rfl ?_
      refine v_iadd dL_law_279 ?_
      refine v_gd (fun g280 => ?_)
      refine v_sLd g280 dL_law_280 ?_
      refine v_aload_n dL_law_281 rfl 0 rfl ?_
      refine v_iload_n dL_law_282 rfl 3 rfl ?_
      refine v_iconst (v := 2) dL_law_283 rfl ?_
      refine v_iadd dL_law_284 ?_
      refine v_gd (fun g285 => ?_)
      refine v_sLd g285 dL_law_285 ?_
      refine v_callVi (q := 111) (ci := 9) (C := RX9) (T := TX9) (NN := 24) (As := [.int (xs (ix (x3 + 1))), .int (xs (ix (x3 + 2)))]) (rest := [.int r7]) (c_X9_value l E m7 (xs (ix (x3 + 1))) (xs (ix (x3 + 2)))) kv_X9_value kc111 (by decide) rfl q964 ⟨rfl, rfl⟩ ⟨Nat.le_of_ble_eq_true rfl, Nat.le_of_ble_eq_true rfl⟩ ⟨Nat.le_of_ble_eq_true rfl, Nat.le_of_ble_eq_true rfl⟩ rfl rfl (Nat.le_of_ble_eq_true rfl) dL_law_286 (fun m8 r8 => ?_)
      refine v_icmp_eq (tgt := 626) dL_law_289 (by decide) ?_ ?_
      · exact w_L_law_626 l E N L xs b rec_18 hrec_18 m8 x3
      · refine v_iconst (v := 0) dL_law_292 rfl ?_
        exact v_sRet (Nat.le_of_ble_eq_true rfl) (Nat.le_of_ble_eq_true rfl) dL_law_293
    refine v_tcase (k := 4) (tgt := 294) dL_law_32 (by decide) (by decide) rfl (by decide) ?_ (fun n32_4 => ?_)
    · refine v_aload_n dL_law_294 rfl 1 rfl ?_
      refine v_aload_n dL_law_295 rfl 0 rfl ?_
      refine v_iload_n dL_law_296 rfl 3 rfl ?_
      refine v_iconst (v := 1) dL_law_297 rfl ?_
      refine v_iadd dL_law_298 ?_
      refine v_gd (fun g299 => ?_)
      refine v_sLd g299 dL_law_299 ?_
      refine v_callVi (q := 0) (ci := 8) (C := RX8) (T := TX8) (NN := 8) (As := [.int (xs (ix (x3 + 1)))]) (rest := []) (c_X8_type l E m0 (xs (ix (x3 + 1)))) kv_X8_type kc0 (by decide) rfl q458 ⟨rfl, rfl⟩ ⟨Nat.le_of_ble_eq_true rfl, Nat.le_of_ble_eq_true rfl⟩ ⟨Nat.le_of_ble_eq_true rfl, Nat.le_of_ble_eq_true rfl⟩ rfl rfl (Nat.le_of_ble_eq_true rfl) dL_law_300 (fun m9 r9 => ?_)
      refine v_aload_n dL_law_303 rfl 2 rfl ?_
      refine v_aload_n dL_law_304 rfl 0 rfl ?_
      refine v_iload_n dL_law_305 rfl 3 rfl ?_
      refine v_iconst (v := 1) dL_law_306 rfl ?_
      refine v_iadd dL_law_307 ?_
      refine v_gd (fun g308 => ?_)
      refine v_sLd g308 dL_law_308 ?_
      refine v_callVi (q := 111) (ci := 9) (C := RX9) (T := TX9) (NN := 24) (As := [.int (xs (ix (x3 + 1)))]) (rest := [.int r9]) (c_X9_type l E m9 (xs (ix (x3 + 1)))) kv_X9_type kc111 (by decide) rfl q1135 ⟨rfl, rfl⟩ ⟨Nat.le_of_ble_eq_true rfl, Nat.le_of_ble_eq_true rfl⟩ ⟨Nat.le_of_ble_eq_true rfl, Nat.le_of_ble_eq_true rfl⟩ rfl rfl (Nat.le_of_ble_eq_true rfl) dL_law_309 (fun m10 r10 => ?_)
      refine v_icmp_eq (tgt := 626) dL_law_312 (by decide) ?_ ?_
      · exact w_L_law_626 l E N L xs b rec_18 hrec_18 m10 x3
      · refine v_iconst (v := 0) dL_law_315 rfl ?_
        exact v_sRet (Nat.le_of_ble_eq_true rfl) (Nat.le_of_ble_eq_true rfl) dL_law_316
    refine v_tcase (k := 5) (tgt := 317) dL_law_32 (by decide) (by decide) rfl (by decide) ?_ (fun n32_5 => ?_)
    · refine v_aload_n dL_law_317 rfl 1 rfl ?_
      refine v_callVi (q := 0) (ci := 8) (C := RX8) (T := TX8) (NN := 8) (As := []) (rest := []) (c_X8_clear l E m0) kv_X8_clear kc0 (by decide) rfl q466 ⟨rfl, rfl⟩ ⟨Nat.le_of_ble_eq_true rfl, Nat.le_of_ble_eq_true rfl⟩ ⟨Nat.le_of_ble_eq_true rfl, Nat.le_of_ble_eq_true rfl⟩ rfl rfl (Nat.le_of_ble_eq_true rfl) dL_law_318 (fun m11 r11 => ?_)
      refine v_aload_n dL_law_321 rfl 2 rfl ?_
      refine v_callVi (q := 111) (ci := 9) (C := RX9) (T := TX9) (NN := 24) (As := []) (rest := [.int r11]) (c_X9_clear l E m11) kv_X9_clear kc111 (by decide) rfl q1139 ⟨rfl, rfl⟩ ⟨Nat.le_of_ble_eq_true rfl, Nat.le_of_ble_eq_true rfl⟩ ⟨Nat.le_of_ble_eq_true rfl, Nat.le_of_ble_eq_true rfl⟩ rfl rfl (Nat.le_of_ble_eq_true rfl) dL_law_322 (fun m12 r12 => ?_)
      refine v_icmp_eq (tgt := 626) dL_law_325 (by decide) ?_ ?_
      · exact w_L_law_626 l E N L xs b rec_18 hrec_18 m12 x3
      · refine v_iconst (v := 0) dL_law_328 rfl ?_
        exact v_sRet (Nat.le_of_ble_eq_true rfl) (Nat.le_of_ble_eq_true rfl) dL_law_329
    refine v_tcase (k := 6) (tgt := 330) dL_law_32 (by decide) (by decide) rfl (by decide) ?_ (fun n32_6 => ?_)
    · refine v_aload_n dL_law_330 rfl 1 rfl ?_
      refine v_callVi (q := 0) (ci := 8) (C := RX8) (T := TX8) (NN := 8) (As := []) (rest := []) (c_X8_sends l E N m0) kv_X8_sends kc0 (by decide) rfl q470 ⟨rfl, rfl⟩ ⟨Nat.le_of_ble_eq_true rfl, Nat.le_of_ble_eq_true rfl⟩ ⟨Nat.le_of_ble_eq_true rfl, Nat.le_of_ble_eq_true rfl⟩ rfl rfl (Nat.le_of_ble_eq_true rfl) dL_law_331 (fun m13 r13 => ?_)
      refine v_aload_n dL_law_334 rfl 2 rfl ?_
      refine v_callVi (q := 111) (ci := 9) (C := RX9) (T := TX9) (NN := 24) (As := []) (rest := [.int r13]) (c_X9_sends l E N m13) kv_X9_sends kc111 (by decide) rfl q968 ⟨rfl, rfl⟩ ⟨Nat.le_of_ble_eq_true rfl, Nat.le_of_ble_eq_true rfl⟩ ⟨Nat.le_of_ble_eq_true rfl, Nat.le_of_ble_eq_true rfl⟩ rfl rfl (Nat.le_of_ble_eq_true rfl) dL_law_335 (fun m14 r14 => ?_)
      refine v_icmp_eq (tgt := 626) dL_law_338 (by decide) ?_ ?_
      · exact w_L_law_626 l E N L xs b rec_18 hrec_18 m14 x3
      · refine v_iconst (v := 0) dL_law_341 rfl ?_
        exact v_sRet (Nat.le_of_ble_eq_true rfl) (Nat.le_of_ble_eq_true rfl) dL_law_342
    refine v_tcase (k := 7) (tgt := 343) dL_law_32 (by decide) (by decide) rfl (by decide) ?_ (fun n32_7 => ?_)
    · refine v_aload_n dL_law_343 rfl 1 rfl ?_
      refine v_callVi (q := 0) (ci := 8) (C := RX8) (T := TX8) (NN := 8) (As := []) (rest := []) (c_X8_finds l E N m0) kv_X8_finds kc0 (by decide) rfl q710 ⟨rfl, rfl⟩ ⟨Nat.le_of_ble_eq_true rfl, Nat.le_of_ble_eq_true rfl⟩ ⟨Nat.le_of_ble_eq_true rfl, Nat.le_of_ble_eq_true rfl⟩ rfl rfl (Nat.le_of_ble_eq_true rfl) dL_law_344 (fun m15 r15 => ?_)
      refine v_aload_n dL_law_347 rfl 2 rfl ?_
      refine v_callVi (q := 111) (ci := 9) (C := RX9) (T := TX9) (NN := 24) (As := []) (rest := [.int r15]) (c_X9_finds l E N m15) kv_X9_finds kc111 (by decide) rfl q1075 ⟨rfl, rfl⟩ ⟨Nat.le_of_ble_eq_true rfl, Nat.le_of_ble_eq_true rfl⟩ ⟨Nat.le_of_ble_eq_true rfl, Nat.le_of_ble_eq_true rfl⟩ rfl rfl (Nat.le_of_ble_eq_true rfl) dL_law_348 (fun m16 r16 => ?_)
      refine v_icmp_eq (tgt := 626) dL_law_351 (by decide) ?_ ?_
      · exact w_L_law_626 l E N L xs b rec_18 hrec_18 m16 x3
      · refine v_iconst (v := 0) dL_law_354 rfl ?_
        exact v_sRet (Nat.le_of_ble_eq_true rfl) (Nat.le_of_ble_eq_true rfl) dL_law_355
    refine v_tcase (k := 8) (tgt := 356) dL_law_32 (by decide) (by decide) rfl (by decide) ?_ (fun n32_8 => ?_)
    · refine v_aload_n dL_law_356 rfl 1 rfl ?_
      refine v_callVi (q := 0) (ci := 8) (C := RX8) (T := TX8) (NN := 8) (As := []) (rest := []) (c_X8_answer l E N m0) kv_X8_answer kc0 (by decide) rfl q718 ⟨rfl, rfl⟩ ⟨Nat.le_of_ble_eq_true rfl, Nat.le_of_ble_eq_true rfl⟩ ⟨Nat.le_of_ble_eq_true rfl, Nat.le_of_ble_eq_true rfl⟩ rfl rfl (Nat.le_of_ble_eq_true rfl) dL_law_357 (fun m17 r17 => ?_)
      refine v_aload_n dL_law_360 rfl 2 rfl ?_
      refine v_callVi (q := 111) (ci := 9) (C := RX9) (T := TX9) (NN := 24) (As := []) (rest := [.int r17]) (c_X9_answer l E N m17) kv_X9_answer kc111 (by decide) rfl q1079 ⟨rfl, rfl⟩ ⟨Nat.le_of_ble_eq_true rfl, Nat.le_of_ble_eq_true rfl⟩ ⟨Nat.le_of_ble_eq_true rfl, Nat.le_of_ble_eq_true rfl⟩ rfl rfl (Nat.le_of_ble_eq_true rfl) dL_law_361 (fun m18 r18 => ?_)
      refine v_icmp_eq (tgt := 626) dL_law_364 (by decide) ?_ ?_
      · exact w_L_law_626 l E N L xs b rec_18 hrec_18 m18 x3
      · refine v_iconst (v := 0) dL_law_367 rfl ?_
        exact v_sRet (Nat.le_of_ble_eq_true rfl) (Nat.le_of_ble_eq_true rfl) dL_law_368
    refine v_tcase (k := 9) (tgt := 369) dL_law_32 (by decide) (by decide) rfl (by decide) ?_ (fun n32_9 => ?_)
    · refine v_aload_n dL_law_369 rfl 1 rfl ?_
      refine v_callVi (q := 0) (ci := 8) (C := RX8) (T := TX8) (NN := 8) (As := []) (rest := []) (c_X8_fault l E N m0) kv_X8_fault kc0 (by decide) rfl q731 ⟨rfl, rfl⟩ ⟨Nat.le_of_ble_eq_true rfl, Nat.le_of_ble_eq_true rfl⟩ ⟨Nat.le_of_ble_eq_true rfl, Nat.le_of_ble_eq_true rfl⟩ rfl rfl (Nat.le_of_ble_eq_true rfl) dL_law_370 (fun m19 r19 => ?_)
      refine v_aload_n dL_law_373 rfl 2 rfl ?_
      refine v_callVi (q := 111) (ci := 9) (C := RX9) (T := TX9) (NN := 24) (As := []) (rest := [.int r19]) (c_X9_fault l E N m19) kv_X9_fault kc111 (by decide) rfl q1091 ⟨rfl, rfl⟩ ⟨Nat.le_of_ble_eq_true rfl, Nat.le_of_ble_eq_true rfl⟩ ⟨Nat.le_of_ble_eq_true rfl, Nat.le_of_ble_eq_true rfl⟩ rfl rfl (Nat.le_of_ble_eq_true rfl) dL_law_374 (fun m20 r20 => ?_)
      refine v_icmp_eq (tgt := 626) dL_law_377 (by decide) ?_ ?_
      · exact w_L_law_626 l E N L xs b rec_18 hrec_18 m20 x3
      · refine v_iconst (v := 0) dL_law_380 rfl ?_
        exact v_sRet (Nat.le_of_ble_eq_true rfl) (Nat.le_of_ble_eq_true rfl) dL_law_381
    refine v_tcase (k := 10) (tgt := 382) dL_law_32 (by decide) (by decide) rfl (by decide) ?_ (fun n32_10 => ?_)
    · refine v_aload_n dL_law_382 rfl 1 rfl ?_
      refine v_aload_n dL_law_383 rfl 0 rfl ?_
      refine v_iload_n dL_law_384 rfl 3 rfl ?_
      refine v_iconst (v := 1) dL_law_385 rfl ?_
      refine v_iadd dL_law_386 ?_
      refine v_gd (fun g387 => ?_)
      refine v_sLd g387 dL_law_387 ?_
      refine v_aload_n dL_law_388 rfl 0 rfl ?_
      refine v_iload_n dL_law_389 rfl 3 rfl ?_
      refine v_iconst (v := 2) dL_law_390 rfl ?_
      refine v_iadd dL_law_391 ?_
      refine v_gd (fun g392 => ?_)
      refine v_sLd g392 dL_law_392 ?_
      refine v_callVi (q := 0) (ci := 8) (C := RX8) (T := TX8) (NN := 8) (As := [.int (xs (ix (x3 + 1))), .int (xs (ix (x3 + 2)))]) (rest := []) (c_X8_condition l E N m0 (xs (ix (x3 + 1))) (xs (ix (x3 + 2)))) kv_X8_condition kc0 (by decide) rfl q735 ⟨rfl, rfl⟩ ⟨Nat.le_of_ble_eq_true rfl, Nat.le_of_ble_eq_true rfl⟩ ⟨Nat.le_of_ble_eq_true rfl, Nat.le_of_ble_eq_true rfl⟩ rfl rfl (Nat.le_of_ble_eq_true rfl) dL_law_393 (fun m21 r21 => ?_)
      refine v_aload_n dL_law_396 rfl 2 rfl ?_
      refine v_aload_n dL_law_397 rfl 0 rfl ?_
      refine v_iload_n dL_law_398 rfl 3 rfl ?_
      refine v_iconst (v := 1) dL_law_399 rfl ?_
      refine v_iadd dL_law_400 ?_
      refine v_gd (fun g401 => ?_)
      refine v_sLd g401 dL_law_401 ?_
      refine v_aload_n dL_law_402 rfl 0 rfl ?_
      refine v_iload_n dL_law_403 rfl 3 rfl ?_
      refine v_iconst (v := 2) dL_law_404 rfl ?_
      refine v_iadd dL_law_405 ?_
      refine v_gd (fun g406 => ?_)
      refine v_sLd g406 dL_law_406 ?_
      refine v_callVi (q := 111) (ci := 9) (C := RX9) (T := TX9) (NN := 24) (As := [.int (xs (ix (x3 + 1))), .int (xs (ix (x3 + 2)))]) (rest := [.int r21]) (c_X9_condition l E N m21 (xs (ix (x3 + 1))) (xs (ix (x3 + 2)))) kv_X9_condition kc111 (by decide) rfl q1095 ⟨rfl, rfl⟩ ⟨Nat.le_of_ble_eq_true rfl, Nat.le_of_ble_eq_true rfl⟩ ⟨Nat.le_of_ble_eq_true rfl, Nat.le_of_ble_eq_true rfl⟩ rfl rfl (Nat.le_of_ble_eq_true rfl) dL_law_407 (fun m22 r22 => ?_)
      refine v_icmp_eq (tgt := 626) dL_law_410 (by decide) ?_ ?_
      · exact w_L_law_626 l E N L xs b rec_18 hrec_18 m22 x3
      · refine v_iconst (v := 0) dL_law_413 rfl ?_
        exact v_sRet (Nat.le_of_ble_eq_true rfl) (Nat.le_of_ble_eq_true rfl) dL_law_414
    refine v_tcase (k := 11) (tgt := 415) dL_law_32 (by decide) (by decide) rfl (by decide) ?_ (fun n32_11 => ?_)
    · refine v_aload_n dL_law_415 rfl 1 rfl ?_
      refine v_aload_n dL_law_416 rfl 0 rfl ?_
      refine v_iload_n dL_law_417 rfl 3 rfl ?_
      refine v_iconst (v := 1) dL_law_418 rfl ?_
      refine v_iadd dL_law_419 ?_
      refine v_gd (fun g420 => ?_)
      refine v_sLd g420 dL_law_420 ?_
      refine v_aload_n dL_law_421 rfl 0 rfl ?_
      refine v_iload_n dL_law_422 rfl 3 rfl ?_
      refine v_iconst (v := 2) dL_law_423 rfl ?_
      refine v_iadd dL_law_424 ?_
      refine v_gd (fun g425 => ?_)
      refine v_sLd g425 dL_law_425 ?_
      refine v_callVi (q := 0) (ci := 8) (C := RX8) (T := TX8) (NN := 8) (As := [.int (xs (ix (x3 + 1))), .int (xs (ix (x3 + 2)))]) (rest := []) (c_X8_masks l E N m0 (xs (ix (x3 + 1))) (xs (ix (x3 + 2)))) kv_X8_masks kc0 (by decide) rfl q743 ⟨rfl, rfl⟩ ⟨Nat.le_of_ble_eq_true rfl, Nat.le_of_ble_eq_true rfl⟩ ⟨Nat.le_of_ble_eq_true rfl, Nat.le_of_ble_eq_true rfl⟩ rfl rfl (Nat.le_of_ble_eq_true rfl) dL_law_426 (fun m23 r23 => ?_)
      refine v_aload_n dL_law_429 rfl 2 rfl ?_
      refine v_aload_n dL_law_430 rfl 0 rfl ?_
      refine v_iload_n dL_law_431 rfl 3 rfl ?_
      refine v_iconst (v := 1) dL_law_432 rfl ?_
      refine v_iadd dL_law_433 ?_
      refine v_gd (fun g434 => ?_)
      refine v_sLd g434 dL_law_434 ?_
      refine v_aload_n dL_law_435 rfl 0 rfl ?_
      refine v_iload_n dL_law_436 rfl 3 rfl ?_
      refine v_iconst (v := 2) dL_law_437 rfl ?_
      refine v_iadd dL_law_438 ?_
      refine v_gd (fun g439 => ?_)
      refine v_sLd g439 dL_law_439 ?_
      refine v_callVi (q := 111) (ci := 9) (C := RX9) (T := TX9) (NN := 24) (As := [.int (xs (ix (x3 + 1))), .int (xs (ix (x3 + 2)))]) (rest := [.int r23]) (c_X9_masks l E N m23 (xs (ix (x3 + 1))) (xs (ix (x3 + 2)))) kv_X9_masks kc111 (by decide) rfl q1099 ⟨rfl, rfl⟩ ⟨Nat.le_of_ble_eq_true rfl, Nat.le_of_ble_eq_true rfl⟩ ⟨Nat.le_of_ble_eq_true rfl, Nat.le_of_ble_eq_true rfl⟩ rfl rfl (Nat.le_of_ble_eq_true rfl) dL_law_440 (fun m24 r24 => ?_)
      refine v_icmp_eq (tgt := 626) dL_law_443 (by decide) ?_ ?_
      · exact w_L_law_626 l E N L xs b rec_18 hrec_18 m24 x3
      · refine v_iconst (v := 0) dL_law_446 rfl ?_
        exact v_sRet (Nat.le_of_ble_eq_true rfl) (Nat.le_of_ble_eq_true rfl) dL_law_447
    refine v_tcase (k := 12) (tgt := 448) dL_law_32 (by decide) (by decide) rfl (by decide) ?_ (fun n32_12 => ?_)
    · refine v_aload_n dL_law_448 rfl 1 rfl ?_
      refine v_callVi (q := 0) (ci := 8) (C := RX8) (T := TX8) (NN := 8) (As := []) (rest := []) (c_X8_edges l E N m0) kv_X8_edges kc0 (by decide) rfl q751 ⟨rfl, rfl⟩ ⟨Nat.le_of_ble_eq_true rfl, Nat.le_of_ble_eq_true rfl⟩ ⟨Nat.le_of_ble_eq_true rfl, Nat.le_of_ble_eq_true rfl⟩ rfl rfl (Nat.le_of_ble_eq_true rfl) dL_law_449 (fun m25 r25 => ?_)
      refine v_aload_n dL_law_452 rfl 2 rfl ?_
      refine v_callVi (q := 111) (ci := 9) (C := RX9) (T := TX9) (NN := 24) (As := []) (rest := [.int r25]) (c_X9_edges l E N m25) kv_X9_edges kc111 (by decide) rfl q1103 ⟨rfl, rfl⟩ ⟨Nat.le_of_ble_eq_true rfl, Nat.le_of_ble_eq_true rfl⟩ ⟨Nat.le_of_ble_eq_true rfl, Nat.le_of_ble_eq_true rfl⟩ rfl rfl (Nat.le_of_ble_eq_true rfl) dL_law_453 (fun m26 r26 => ?_)
      refine v_icmp_eq (tgt := 626) dL_law_456 (by decide) ?_ ?_
      · exact w_L_law_626 l E N L xs b rec_18 hrec_18 m26 x3
      · refine v_iconst (v := 0) dL_law_459 rfl ?_
        exact v_sRet (Nat.le_of_ble_eq_true rfl) (Nat.le_of_ble_eq_true rfl) dL_law_460
    refine v_tcase (k := 13) (tgt := 461) dL_law_32 (by decide) (by decide) rfl (by decide) ?_ (fun n32_13 => ?_)
    · refine v_aload_n dL_law_461 rfl 1 rfl ?_
      refine v_aload_n dL_law_462 rfl 0 rfl ?_
      refine v_iload_n dL_law_463 rfl 3 rfl ?_
      refine v_iconst (v := 1) dL_law_464 rfl ?_
      refine v_iadd dL_law_465 ?_
      refine v_gd (fun g466 => ?_)
      refine v_sLd g466 dL_law_466 ?_
      refine v_callVi (q := 0) (ci := 8) (C := RX8) (T := TX8) (NN := 8) (As := [.int (xs (ix (x3 + 1)))]) (rest := []) (c_X8_finishes l E N m0 (xs (ix (x3 + 1)))) kv_X8_finishes kc0 (by decide) rfl q755 ⟨rfl, rfl⟩ ⟨Nat.le_of_ble_eq_true rfl, Nat.le_of_ble_eq_true rfl⟩ ⟨Nat.le_of_ble_eq_true rfl, Nat.le_of_ble_eq_true rfl⟩ rfl rfl (Nat.le_of_ble_eq_true rfl) dL_law_467 (fun m27 r27 => ?_)
      refine v_aload_n dL_law_470 rfl 2 rfl ?_
      refine v_aload_n dL_law_471 rfl 0 rfl ?_
      refine v_iload_n dL_law_472 rfl 3 rfl ?_
      refine v_iconst (v := 1) dL_law_473 rfl ?_
      refine v_iadd dL_law_474 ?_
      refine v_gd (fun g475 => ?_)
      refine v_sLd g475 dL_law_475 ?_
      refine v_callVi (q := 111) (ci := 9) (C := RX9) (T := TX9) (NN := 24) (As := [.int (xs (ix (x3 + 1)))]) (rest := [.int r27]) (c_X9_finishes l E N m27 (xs (ix (x3 + 1)))) kv_X9_finishes kc111 (by decide) rfl q1107 ⟨rfl, rfl⟩ ⟨Nat.le_of_ble_eq_true rfl, Nat.le_of_ble_eq_true rfl⟩ ⟨Nat.le_of_ble_eq_true rfl, Nat.le_of_ble_eq_true rfl⟩ rfl rfl (Nat.le_of_ble_eq_true rfl) dL_law_476 (fun m28 r28 => ?_)
      refine v_icmp_eq (tgt := 626) dL_law_479 (by decide) ?_ ?_
      · exact w_L_law_626 l E N L xs b rec_18 hrec_18 m28 x3
      · refine v_iconst (v := 0) dL_law_482 rfl ?_
        exact v_sRet (Nat.le_of_ble_eq_true rfl) (Nat.le_of_ble_eq_true rfl) dL_law_483
    refine v_tcase (k := 14) (tgt := 484) dL_law_32 (by decide) (by decide) rfl (by decide) ?_ (fun n32_14 => ?_)
    · refine v_aload_n dL_law_484 rfl 1 rfl ?_
      refine v_aload_n dL_law_485 rfl 0 rfl ?_
      refine v_iload_n dL_law_486 rfl 3 rfl ?_
      refine v_iconst (v := 1) dL_law_487 rfl ?_
      refine v_iadd dL_law_488 ?_
      refine v_gd (fun g489 => ?_)
      refine v_sLd g489 dL_law_489 ?_
      refine v_callVi (q := 0) (ci := 8) (C := RX8) (T := TX8) (NN := 8) (As := [.int (xs (ix (x3 + 1)))]) (rest := []) (c_X8_state l E m0 (xs (ix (x3 + 1)))) kv_X8_state kc0 (by decide) rfl q764 ⟨rfl, rfl⟩ ⟨Nat.le_of_ble_eq_true rfl, Nat.le_of_ble_eq_true rfl⟩ ⟨Nat.le_of_ble_eq_true rfl, Nat.le_of_ble_eq_true rfl⟩ rfl rfl (Nat.le_of_ble_eq_true rfl) dL_law_490 (fun m29 r29 => ?_)
      refine v_aload_n dL_law_493 rfl 2 rfl ?_
      refine v_aload_n dL_law_494 rfl 0 rfl ?_
      refine v_iload_n dL_law_495 rfl 3 rfl ?_
      refine v_iconst (v := 1) dL_law_496 rfl ?_
      refine v_iadd dL_law_497 ?_
      refine v_gd (fun g498 => ?_)
      refine v_sLd g498 dL_law_498 ?_
      refine v_callVi (q := 111) (ci := 9) (C := RX9) (T := TX9) (NN := 24) (As := [.int (xs (ix (x3 + 1)))]) (rest := [.int r29]) (c_X9_state l E m29 (xs (ix (x3 + 1)))) kv_X9_state kc111 (by decide) rfl q1111 ⟨rfl, rfl⟩ ⟨Nat.le_of_ble_eq_true rfl, Nat.le_of_ble_eq_true rfl⟩ ⟨Nat.le_of_ble_eq_true rfl, Nat.le_of_ble_eq_true rfl⟩ rfl rfl (Nat.le_of_ble_eq_true rfl) dL_law_499 (fun m30 r30 => ?_)
      refine v_icmp_eq (tgt := 626) dL_law_502 (by decide) ?_ ?_
      · exact w_L_law_626 l E N L xs b rec_18 hrec_18 m30 x3
      · refine v_iconst (v := 0) dL_law_505 rfl ?_
        exact v_sRet (Nat.le_of_ble_eq_true rfl) (Nat.le_of_ble_eq_true rfl) dL_law_506
    refine v_tcase (k := 15) (tgt := 507) dL_law_32 (by decide) (by decide) rfl (by decide) ?_ (fun n32_15 => ?_)
    · refine v_aload_n dL_law_507 rfl 1 rfl ?_
      refine v_aload_n dL_law_508 rfl 0 rfl ?_
      refine v_iload_n dL_law_509 rfl 3 rfl ?_
      refine v_iconst (v := 1) dL_law_510 rfl ?_
      refine v_iadd dL_law_511 ?_
      refine v_gd (fun g512 => ?_)
      refine v_sLd g512 dL_law_512 ?_
      refine v_callVi (q := 0) (ci := 8) (C := RX8) (T := TX8) (NN := 8) (As := [.int (xs (ix (x3 + 1)))]) (rest := []) (c_X8_answers l E m0 (xs (ix (x3 + 1)))) kv_X8_answers kc0 (by decide) rfl q772 ⟨rfl, rfl⟩ ⟨Nat.le_of_ble_eq_true rfl, Nat.le_of_ble_eq_true rfl⟩ ⟨Nat.le_of_ble_eq_true rfl, Nat.le_of_ble_eq_true rfl⟩ rfl rfl (Nat.le_of_ble_eq_true rfl) dL_law_513 (fun m31 r31 => ?_)
      refine v_aload_n dL_law_516 rfl 2 rfl ?_
      refine v_aload_n dL_law_517 rfl 0 rfl ?_
      refine v_iload_n dL_law_518 rfl 3 rfl ?_
      refine v_iconst (v := 1) dL_law_519 rfl ?_
      refine v_iadd dL_law_520 ?_
      refine v_gd (fun g521 => ?_)
      refine v_sLd g521 dL_law_521 ?_
      refine v_callVi (q := 111) (ci := 9) (C := RX9) (T := TX9) (NN := 24) (As := [.int (xs (ix (x3 + 1)))]) (rest := [.int r31]) (c_X9_answers l E m31 (xs (ix (x3 + 1)))) kv_X9_answers kc111 (by decide) rfl q1119 ⟨rfl, rfl⟩ ⟨Nat.le_of_ble_eq_true rfl, Nat.le_of_ble_eq_true rfl⟩ ⟨Nat.le_of_ble_eq_true rfl, Nat.le_of_ble_eq_true rfl⟩ rfl rfl (Nat.le_of_ble_eq_true rfl) dL_law_522 (fun m32 r32 => ?_)
      refine v_icmp_eq (tgt := 626) dL_law_525 (by decide) ?_ ?_
      · exact w_L_law_626 l E N L xs b rec_18 hrec_18 m32 x3
      · refine v_iconst (v := 0) dL_law_528 rfl ?_
        exact v_sRet (Nat.le_of_ble_eq_true rfl) (Nat.le_of_ble_eq_true rfl) dL_law_529
    refine v_tcase (k := 16) (tgt := 530) dL_law_32 (by decide) (by decide) rfl (by decide) ?_ (fun n32_16 => ?_)
    · refine v_aload_n dL_law_530 rfl 1 rfl ?_
      refine v_aload_n dL_law_531 rfl 0 rfl ?_
      refine v_iload_n dL_law_532 rfl 3 rfl ?_
      refine v_iconst (v := 1) dL_law_533 rfl ?_
      refine v_iadd dL_law_534 ?_
      refine v_gd (fun g535 => ?_)
      refine v_sLd g535 dL_law_535 ?_
      refine v_callVi (q := 0) (ci := 8) (C := RX8) (T := TX8) (NN := 8) (As := [.int (xs (ix (x3 + 1)))]) (rest := []) (c_X8_faults l E m0 (xs (ix (x3 + 1)))) kv_X8_faults kc0 (by decide) rfl q777 ⟨rfl, rfl⟩ ⟨Nat.le_of_ble_eq_true rfl, Nat.le_of_ble_eq_true rfl⟩ ⟨Nat.le_of_ble_eq_true rfl, Nat.le_of_ble_eq_true rfl⟩ rfl rfl (Nat.le_of_ble_eq_true rfl) dL_law_536 (fun m33 r33 => ?_)
      refine v_aload_n dL_law_539 rfl 2 rfl ?_
      refine v_aload_n dL_law_540 rfl 0 rfl ?_
      refine v_iload_n dL_law_541 rfl 3 rfl ?_
      refine v_iconst (v := 1) dL_law_542 rfl ?_
      refine v_iadd dL_law_543 ?_
      refine v_gd (fun g544 => ?_)
      refine v_sLd g544 dL_law_544 ?_
      refine v_callVi (q := 111) (ci := 9) (C := RX9) (T := TX9) (NN := 24) (As := [.int (xs (ix (x3 + 1)))]) (rest := [.int r33]) (c_X9_faults l E m33 (xs (ix (x3 + 1)))) kv_X9_faults kc111 (by decide) rfl q1127 ⟨rfl, rfl⟩ ⟨Nat.le_of_ble_eq_true rfl, Nat.le_of_ble_eq_true rfl⟩ ⟨Nat.le_of_ble_eq_true rfl, Nat.le_of_ble_eq_true rfl⟩ rfl rfl (Nat.le_of_ble_eq_true rfl) dL_law_545 (fun m34 r34 => ?_)
      refine v_icmp_eq (tgt := 626) dL_law_548 (by decide) ?_ ?_
      · exact w_L_law_626 l E N L xs b rec_18 hrec_18 m34 x3
      · refine v_iconst (v := 0) dL_law_551 rfl ?_
        exact v_sRet (Nat.le_of_ble_eq_true rfl) (Nat.le_of_ble_eq_true rfl) dL_law_552
    refine v_tcase (k := 17) (tgt := 553) dL_law_32 (by decide) (by decide) rfl (by decide) ?_ (fun n32_17 => ?_)
    · refine v_aload_n dL_law_553 rfl 1 rfl ?_
      refine v_aload_n dL_law_554 rfl 0 rfl ?_
      refine v_iload_n dL_law_555 rfl 3 rfl ?_
      refine v_iconst (v := 1) dL_law_556 rfl ?_
      refine v_iadd dL_law_557 ?_
      refine v_gd (fun g558 => ?_)
      refine v_sLd g558 dL_law_558 ?_
      refine v_callVi (q := 0) (ci := 8) (C := RX8) (T := TX8) (NN := 8) (As := [.int (xs (ix (x3 + 1)))]) (rest := []) (c_X8_pending l E m0 (xs (ix (x3 + 1)))) kv_X8_pending kc0 (by decide) rfl q781 ⟨rfl, rfl⟩ ⟨Nat.le_of_ble_eq_true rfl, Nat.le_of_ble_eq_true rfl⟩ ⟨Nat.le_of_ble_eq_true rfl, Nat.le_of_ble_eq_true rfl⟩ rfl rfl (Nat.le_of_ble_eq_true rfl) dL_law_559 (fun m35 r35 => ?_)
      refine v_aload_n dL_law_562 rfl 2 rfl ?_
      refine v_aload_n dL_law_563 rfl 0 rfl ?_
      refine v_iload_n dL_law_564 rfl 3 rfl ?_
      refine v_iconst (v := 1) dL_law_565 rfl ?_
      refine v_iadd dL_law_566 ?_
      refine v_gd (fun g567 => ?_)
      refine v_sLd g567 dL_law_567 ?_
      refine v_callVi (q := 111) (ci := 9) (C := RX9) (T := TX9) (NN := 24) (As := [.int (xs (ix (x3 + 1)))]) (rest := [.int r35]) (c_X9_pending l E m35 (xs (ix (x3 + 1)))) kv_X9_pending kc111 (by decide) rfl q1131 ⟨rfl, rfl⟩ ⟨Nat.le_of_ble_eq_true rfl, Nat.le_of_ble_eq_true rfl⟩ ⟨Nat.le_of_ble_eq_true rfl, Nat.le_of_ble_eq_true rfl⟩ rfl rfl (Nat.le_of_ble_eq_true rfl) dL_law_568 (fun m36 r36 => ?_)
      refine v_icmp_eq (tgt := 626) dL_law_571 (by decide) ?_ ?_
      · exact w_L_law_626 l E N L xs b rec_18 hrec_18 m36 x3
      · refine v_iconst (v := 0) dL_law_574 rfl ?_
        exact v_sRet (Nat.le_of_ble_eq_true rfl) (Nat.le_of_ble_eq_true rfl) dL_law_575
    refine v_tcase (k := 18) (tgt := 576) dL_law_32 (by decide) (by decide) rfl (by decide) ?_ (fun n32_18 => ?_)
    · refine v_aload_n dL_law_576 rfl 1 rfl ?_
      refine v_callVi (q := 0) (ci := 8) (C := RX8) (T := TX8) (NN := 8) (As := []) (rest := []) (c_X8_back l E N m0) kv_X8_back kc0 (by decide) rfl q785 ⟨rfl, rfl⟩ ⟨Nat.le_of_ble_eq_true rfl, Nat.le_of_ble_eq_true rfl⟩ ⟨Nat.le_of_ble_eq_true rfl, Nat.le_of_ble_eq_true rfl⟩ rfl rfl (Nat.le_of_ble_eq_true rfl) dL_law_577 (fun m37 r37 => ?_)
      refine v_aload_n dL_law_580 rfl 2 rfl ?_
      refine v_callVi (q := 111) (ci := 9) (C := RX9) (T := TX9) (NN := 24) (As := []) (rest := [.int r37]) (c_X9_back l E N m37) kv_X9_back kc111 (by decide) rfl q896 ⟨rfl, rfl⟩ ⟨Nat.le_of_ble_eq_true rfl, Nat.le_of_ble_eq_true rfl⟩ ⟨Nat.le_of_ble_eq_true rfl, Nat.le_of_ble_eq_true rfl⟩ rfl rfl (Nat.le_of_ble_eq_true rfl) dL_law_581 (fun m38 r38 => ?_)
      refine v_icmp_eq (tgt := 626) dL_law_584 (by decide) ?_ ?_
      · exact w_L_law_626 l E N L xs b rec_18 hrec_18 m38 x3
      · refine v_iconst (v := 0) dL_law_587 rfl ?_
        exact v_sRet (Nat.le_of_ble_eq_true rfl) (Nat.le_of_ble_eq_true rfl) dL_law_588
    refine v_tcase (k := 19) (tgt := 589) dL_law_32 (by decide) (by decide) rfl (by decide) ?_ (fun n32_19 => ?_)
    · refine v_aload_n dL_law_589 rfl 1 rfl ?_
      refine v_aload_n dL_law_590 rfl 0 rfl ?_
      refine v_iload_n dL_law_591 rfl 3 rfl ?_
      refine v_iconst (v := 1) dL_law_592 rfl ?_
      refine v_iadd dL_law_593 ?_
      refine v_gd (fun g594 => ?_)
      refine v_sLd g594 dL_law_594 ?_
      refine v_callVi (q := 0) (ci := 8) (C := RX8) (T := TX8) (NN := 8) (As := [.int (xs (ix (x3 + 1)))]) (rest := []) (c_X8_told l E m0 (xs (ix (x3 + 1)))) kv_X8_told kc0 (by decide) rfl q793 ⟨rfl, rfl⟩ ⟨Nat.le_of_ble_eq_true rfl, Nat.le_of_ble_eq_true rfl⟩ ⟨Nat.le_of_ble_eq_true rfl, Nat.le_of_ble_eq_true rfl⟩ rfl rfl (Nat.le_of_ble_eq_true rfl) dL_law_595 (fun m39 r39 => ?_)
      refine v_aload_n dL_law_598 rfl 2 rfl ?_
      refine v_aload_n dL_law_599 rfl 0 rfl ?_
      refine v_iload_n dL_law_600 rfl 3 rfl ?_
      refine v_iconst (v := 1) dL_law_601 rfl ?_
      refine v_iadd dL_law_602 ?_
      refine v_gd (fun g603 => ?_)
      refine v_sLd g603 dL_law_603 ?_
      refine v_callVi (q := 111) (ci := 9) (C := RX9) (T := TX9) (NN := 24) (As := [.int (xs (ix (x3 + 1)))]) (rest := [.int r39]) (c_X9_told l E m39 (xs (ix (x3 + 1)))) kv_X9_told kc111 (by decide) rfl q1143 ⟨rfl, rfl⟩ ⟨Nat.le_of_ble_eq_true rfl, Nat.le_of_ble_eq_true rfl⟩ ⟨Nat.le_of_ble_eq_true rfl, Nat.le_of_ble_eq_true rfl⟩ rfl rfl (Nat.le_of_ble_eq_true rfl) dL_law_604 (fun m40 r40 => ?_)
      refine v_icmp_eq (tgt := 626) dL_law_607 (by decide) ?_ ?_
      · exact w_L_law_626 l E N L xs b rec_18 hrec_18 m40 x3
      · refine v_iconst (v := 0) dL_law_610 rfl ?_
        exact v_sRet (Nat.le_of_ble_eq_true rfl) (Nat.le_of_ble_eq_true rfl) dL_law_611
    refine v_tcase (k := 20) (tgt := 612) dL_law_32 (by decide) (by decide) rfl (by decide) ?_ (fun n32_20 => ?_)
    · refine v_aload_n dL_law_612 rfl 1 rfl ?_
      refine v_callVl (q := 0) (ci := 8) (C := RX8) (T := TX8) (NN := 8) (As := []) (rest := []) (c_X8_digest l E N m0) kv_X8_digest kc0 (by decide) rfl q801 ⟨rfl, rfl⟩ ⟨Nat.le_of_ble_eq_true rfl, Nat.le_of_ble_eq_true rfl⟩ ⟨Nat.le_of_ble_eq_true rfl, Nat.le_of_ble_eq_true rfl⟩ rfl rfl (Nat.le_of_ble_eq_true rfl) dL_law_613 (fun m41 r41 => ?_)
      refine v_aload_n dL_law_616 rfl 2 rfl ?_
      refine v_callVl (q := 111) (ci := 9) (C := RX9) (T := TX9) (NN := 24) (As := []) (rest := [.long r41]) (c_X9_digest l E N m41) kv_X9_digest kc111 (by decide) rfl q1151 ⟨rfl, rfl⟩ ⟨Nat.le_of_ble_eq_true rfl, Nat.le_of_ble_eq_true rfl⟩ ⟨Nat.le_of_ble_eq_true rfl, Nat.le_of_ble_eq_true rfl⟩ rfl rfl (Nat.le_of_ble_eq_true rfl) dL_law_617 (fun m42 r42 => ?_)
      refine v_lcmp dL_law_620 ?_
      refine v_if_eq (tgt := 626) dL_law_621 (by decide) ?_ ?_
      · exact w_L_law_626 l E N L xs b rec_18 hrec_18 m42 x3
      · refine v_iconst (v := 0) dL_law_624 rfl ?_
        exact v_sRet (Nat.le_of_ble_eq_true rfl) (Nat.le_of_ble_eq_true rfl) dL_law_625
    refine v_tout (tgt := 626) dL_law_32 (by have en32_0 := lv_neT (a := 0) n32_0 rfl; have en32_1 := lv_neT (a := 1) n32_1 rfl; have en32_2 := lv_neT (a := 2) n32_2 rfl; have en32_3 := lv_neT (a := 3) n32_3 rfl; have en32_4 := lv_neT (a := 4) n32_4 rfl; have en32_5 := lv_neT (a := 5) n32_5 rfl; have en32_6 := lv_neT (a := 6) n32_6 rfl; have en32_7 := lv_neT (a := 7) n32_7 rfl; have en32_8 := lv_neT (a := 8) n32_8 rfl; have en32_9 := lv_neT (a := 9) n32_9 rfl; have en32_10 := lv_neT (a := 10) n32_10 rfl; have en32_11 := lv_neT (a := 11) n32_11 rfl; have en32_12 := lv_neT (a := 12) n32_12 rfl; have en32_13 := lv_neT (a := 13) n32_13 rfl; have en32_14 := lv_neT (a := 14) n32_14 rfl; have en32_15 := lv_neT (a := 15) n32_15 rfl; have en32_16 := lv_neT (a := 16) n32_16 rfl; have en32_17 := lv_neT (a := 17) n32_17 rfl; have en32_18 := lv_neT (a := 18) n32_18 rfl; have en32_19 := lv_neT (a := 19) n32_19 rfl; have en32_20 := lv_neT (a := 20) n32_20 rfl; omega) (by decide) ?_
    exact w_L_law_626 l E N L xs b rec_18 hrec_18 m0 x3
theorem w_L_law_18 (l : Launch) (E : EnvT) (N : Nat) (L : Nat) (xs : Nat → Int32) (b : Nat) : ∀ (n : Nat) (m0 : Mem) (x3 : Int32), V l E RL code 4 ret room_1 124 3882 (Zlaw E b L xs) rvI (f_L_law_18 N L xs n m0 x3) m0 18 [(0, .ref b), (1, .ref (eAd E 0)), (2, .ref (eAd E 111)), (3, .int x3)] [] := by
  intro n
  induction n with
  | zero => intros; exact v_none
  | succ n ih => exact w_L_law_18b l E N L xs b _ ih
def f_L_law (N : Nat) (L : Nat) (xs : Nat → Int32) (m0 : Mem) : Option (Mem × Int32) := (f_L_law_18 N L xs N m0 0)
theorem w_law (l : Launch) (E : EnvT) (N : Nat) (L : Nat) (xs : Nat → Int32) (b : Nat) (m0 : Mem) : V l E RL code 4 ret room_1 124 3882 (Zlaw E b L xs) rvI (f_L_law N L xs m0) m0 16 [(0, .ref b), (1, .ref (eAd E 0)), (2, .ref (eAd E 111))] [] := by
  unfold f_L_law
  refine v_iconst (v := 0) dL_law_16 rfl ?_
  refine v_istore_n (lv' := [(3, .int 0), (0, .ref b), (1, .ref (eAd E 0)), (2, .ref (eAd E 111))]) dL_law_17 rfl (Nat.le_of_ble_eq_true rfl) rfl ?_
  refine v_sub [1, 2, 3, 0] rfl ?_
  exact w_L_law_18 l E N L xs b N m0 0
