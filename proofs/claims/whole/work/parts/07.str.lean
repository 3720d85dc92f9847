theorem sq81 : Cond.initialized "java/lang/String" ∈ tb := tbm 81 (by decide +kernel) rfl
theorem sq82 : Cond.initialized "java/lang/StringLatin1" ∈ tb := tbm 82 (by decide +kernel) rfl
theorem sq537 : Cond.methodLink "BenchOrders$Text" 36 yJ0_length_8abf5 ∈ tb := tbm 537 (by decide +kernel) rfl
theorem sq538 : Cond.instanceMethod yJ0_length_8abf5 ∈ tb := tbm 538 (by decide +kernel) rfl
theorem sq539 : Cond.selects "java/lang/String" yJ0_length_8abf5 yJ0_length_8abf5 ∈ tb := tbm 539 (by decide +kernel) rfl
theorem sq540 : Cond.code yJ0_length_8abf5 prog_13_method_54_code 1 (some .int) ∈ tb := tbm 540 (by decide +kernel) rfl
theorem sq541 : Cond.methodLink "java/lang/String" 335 yJ0_coder_7d493 ∈ tb := tbm 541 (by decide +kernel) rfl
theorem sq542 : Cond.instanceMethod yJ0_coder_7d493 ∈ tb := tbm 542 (by decide +kernel) rfl
theorem sq543 : Cond.selects "java/lang/String" yJ0_coder_7d493 yJ0_coder_7d493 ∈ tb := tbm 543 (by decide +kernel) rfl
theorem sq544 : Cond.code yJ0_coder_7d493 prog_13_method_152_code 1 (some .byte) ∈ tb := tbm 544 (by decide +kernel) rfl
theorem sq545 : Cond.fieldLink "java/lang/String" 38 "java/lang/String" "COMPACT_STRINGS" "Z" ∈ tb := tbm 545 (by decide +kernel) rfl
theorem sq548 : Cond.methodLink "BenchOrders$Text" 44 yJ0_charAt_5068e ∈ tb := tbm 548 (by decide +kernel) rfl
theorem sq549 : Cond.instanceMethod yJ0_charAt_5068e ∈ tb := tbm 549 (by decide +kernel) rfl
theorem sq550 : Cond.selects "java/lang/String" yJ0_charAt_5068e yJ0_charAt_5068e ∈ tb := tbm 550 (by decide +kernel) rfl
theorem sq551 : Cond.code yJ0_charAt_5068e prog_13_method_56_code 2 (some .char) ∈ tb := tbm 551 (by decide +kernel) rfl
theorem sq552 : Cond.methodLink "java/lang/String" 492 yJ0_isLatin1_aae02 ∈ tb := tbm 552 (by decide +kernel) rfl
theorem sq553 : Cond.instanceMethod yJ0_isLatin1_aae02 ∈ tb := tbm 553 (by decide +kernel) rfl
theorem sq554 : Cond.selects "java/lang/String" yJ0_isLatin1_aae02 yJ0_isLatin1_aae02 ∈ tb := tbm 554 (by decide +kernel) rfl
theorem sq555 : Cond.code yJ0_isLatin1_aae02 prog_13_method_154_code 1 (some .boolean) ∈ tb := tbm 555 (by decide +kernel) rfl
theorem sq556 : Cond.methodLink "java/lang/String" 495 yJ1_charAt_3b067 ∈ tb := tbm 556 (by decide +kernel) rfl
theorem sq557 : Cond.static yJ1_charAt_3b067 ∈ tb := tbm 557 (by decide +kernel) rfl
theorem sq558 : Cond.code yJ1_charAt_3b067 prog_14_method_2_code 2 (some .char) ∈ tb := tbm 558 (by decide +kernel) rfl
theorem sq559 : Cond.methodLink "java/lang/StringLatin1" 9 yJ0_checkIndex_df160 ∈ tb := tbm 559 (by decide +kernel) rfl
theorem sq560 : Cond.static yJ0_checkIndex_df160 ∈ tb := tbm 560 (by decide +kernel) rfl
theorem sq561 : Cond.code yJ0_checkIndex_df160 prog_13_method_155_code 2 none ∈ tb := tbm 561 (by decide +kernel) rfl
theorem sq562 : Cond.fieldLink "java/lang/String" 1053 "jdk/internal/util/Preconditions" "SIOOBE_FORMATTER" "Ljava/util/function/BiFunction;" ∈ tb := tbm 562 (by decide +kernel) rfl
theorem sq564 : Cond.methodLink "java/lang/String" 1059 yJ3_checkIndex_8e157 ∈ tb := tbm 564 (by decide +kernel) rfl
theorem sq565 : Cond.static yJ3_checkIndex_8e157 ∈ tb := tbm 565 (by decide +kernel) rfl
theorem sq566 : Cond.code yJ3_checkIndex_8e157 prog_16_method_11_code 3 (some .int) ∈ tb := tbm 566 (by decide +kernel) rfl
theorem sq1165 : Cond.fieldLink "java/lang/String" 9 "java/lang/String" "value" "[B" ∈ tb := tbm 1165 (by decide +kernel) rfl
theorem sq1166 : Cond.fieldLink "java/lang/String" 15 "java/lang/String" "coder" "B" ∈ tb := tbm 1166 (by decide +kernel) rfl
theorem sq_pre : Cond.initialized "jdk/internal/util/Preconditions" ∈ tb := tbm 83 (by decide +kernel) rfl
theorem dJ0_length_8abf5_0 : decode cJ0_length_8abf5 0 = .ok (.aload_n 0, 1) := by decide +kernel
theorem dJ0_length_8abf5_1 : decode cJ0_length_8abf5 1 = .ok (.getfield 9, 3) := by decide +kernel
theorem dJ0_length_8abf5_4 : decode cJ0_length_8abf5 4 = .ok (.arraylength, 1) := by decide +kernel
theorem dJ0_length_8abf5_5 : decode cJ0_length_8abf5 5 = .ok (.aload_n 0, 1) := by decide +kernel
theorem dJ0_length_8abf5_6 : decode cJ0_length_8abf5 6 = .ok (.invokevirtual 335, 3) := by decide +kernel
theorem dJ0_length_8abf5_9 : decode cJ0_length_8abf5 9 = .ok (.ishr, 1) := by decide +kernel
theorem dJ0_length_8abf5_10 : decode cJ0_length_8abf5 10 = .ok (.ireturn, 1) := by decide +kernel
theorem dJ0_charAt_5068e_0 : decode cJ0_charAt_5068e 0 = .ok (.aload_n 0, 1) := by decide +kernel
theorem dJ0_charAt_5068e_1 : decode cJ0_charAt_5068e 1 = .ok (.invokevirtual 492, 3) := by decide +kernel
theorem dJ0_charAt_5068e_4 : decode cJ0_charAt_5068e 4 = .ok (.ifCond .eq 12, 3) := by decide +kernel
theorem dJ0_charAt_5068e_7 : decode cJ0_charAt_5068e 7 = .ok (.aload_n 0, 1) := by decide +kernel
theorem dJ0_charAt_5068e_8 : decode cJ0_charAt_5068e 8 = .ok (.getfield 9, 3) := by decide +kernel
theorem dJ0_charAt_5068e_11 : decode cJ0_charAt_5068e 11 = .ok (.iload_n 1, 1) := by decide +kernel
theorem dJ0_charAt_5068e_12 : decode cJ0_charAt_5068e 12 = .ok (.invokestatic 495, 3) := by decide +kernel
theorem dJ0_charAt_5068e_15 : decode cJ0_charAt_5068e 15 = .ok (.ireturn, 1) := by decide +kernel
theorem dJ0_charAt_5068e_16 : decode cJ0_charAt_5068e 16 = .ok (.aload_n 0, 1) := by decide +kernel
theorem dJ0_charAt_5068e_17 : decode cJ0_charAt_5068e 17 = .ok (.getfield 9, 3) := by decide +kernel
theorem dJ0_charAt_5068e_20 : decode cJ0_charAt_5068e 20 = .ok (.iload_n 1, 1) := by decide +kernel
theorem dJ0_charAt_5068e_21 : decode cJ0_charAt_5068e 21 = .ok (.invokestatic 498, 3) := by decide +kernel
theorem dJ0_charAt_5068e_24 : decode cJ0_charAt_5068e 24 = .ok (.ireturn, 1) := by decide +kernel
theorem dJ0_coder_7d493_0 : decode cJ0_coder_7d493 0 = .ok (.getstatic 38, 3) := by decide +kernel
theorem dJ0_coder_7d493_3 : decode cJ0_coder_7d493 3 = .ok (.ifCond .eq 10, 3) := by decide +kernel
theorem dJ0_coder_7d493_6 : decode cJ0_coder_7d493 6 = .ok (.aload_n 0, 1) := by decide +kernel
theorem dJ0_coder_7d493_7 : decode cJ0_coder_7d493 7 = .ok (.getfield 15, 3) := by decide +kernel
theorem dJ0_coder_7d493_10 : decode cJ0_coder_7d493 10 = .ok (.goto 4, 3) := by decide +kernel
theorem dJ0_coder_7d493_13 : decode cJ0_coder_7d493 13 = .ok (.iconst 1, 1) := by decide +kernel
theorem dJ0_coder_7d493_14 : decode cJ0_coder_7d493 14 = .ok (.ireturn, 1) := by decide +kernel
theorem dJ0_isLatin1_aae02_0 : decode cJ0_isLatin1_aae02 0 = .ok (.getstatic 38, 3) := by decide +kernel
theorem dJ0_isLatin1_aae02_3 : decode cJ0_isLatin1_aae02 3 = .ok (.ifCond .eq 14, 3) := by decide +kernel
theorem dJ0_isLatin1_aae02_6 : decode cJ0_isLatin1_aae02 6 = .ok (.aload_n 0, 1) := by decide +kernel
theorem dJ0_isLatin1_aae02_7 : decode cJ0_isLatin1_aae02 7 = .ok (.getfield 15, 3) := by decide +kernel
theorem dJ0_isLatin1_aae02_10 : decode cJ0_isLatin1_aae02 10 = .ok (.ifCond .ne 7, 3) := by decide +kernel
theorem dJ0_isLatin1_aae02_13 : decode cJ0_isLatin1_aae02 13 = .ok (.iconst 1, 1) := by decide +kernel
theorem dJ0_isLatin1_aae02_14 : decode cJ0_isLatin1_aae02 14 = .ok (.goto 4, 3) := by decide +kernel
theorem dJ0_isLatin1_aae02_17 : decode cJ0_isLatin1_aae02 17 = .ok (.iconst 0, 1) := by decide +kernel
theorem dJ0_isLatin1_aae02_18 : decode cJ0_isLatin1_aae02 18 = .ok (.ireturn, 1) := by decide +kernel
theorem dJ0_checkIndex_df160_0 : decode cJ0_checkIndex_df160 0 = .ok (.iload_n 0, 1) := by decide +kernel
theorem dJ0_checkIndex_df160_1 : decode cJ0_checkIndex_df160 1 = .ok (.iload_n 1, 1) := by decide +kernel
theorem dJ0_checkIndex_df160_2 : decode cJ0_checkIndex_df160 2 = .ok (.getstatic 1053, 3) := by decide +kernel
theorem dJ0_checkIndex_df160_5 : decode cJ0_checkIndex_df160 5 = .ok (.invokestatic 1059, 3) := by decide +kernel
theorem dJ0_checkIndex_df160_8 : decode cJ0_checkIndex_df160 8 = .ok (.pop, 1) := by decide +kernel
theorem dJ0_checkIndex_df160_9 : decode cJ0_checkIndex_df160 9 = .ok (.return_, 1) := by decide +kernel
theorem dJ1_charAt_3b067_0 : decode cJ1_charAt_3b067 0 = .ok (.iload_n 1, 1) := by decide +kernel
theorem dJ1_charAt_3b067_1 : decode cJ1_charAt_3b067 1 = .ok (.aload_n 0, 1) := by decide +kernel
theorem dJ1_charAt_3b067_2 : decode cJ1_charAt_3b067 2 = .ok (.arraylength, 1) := by decide +kernel
theorem dJ1_charAt_3b067_3 : decode cJ1_charAt_3b067 3 = .ok (.invokestatic 9, 3) := by decide +kernel
theorem dJ1_charAt_3b067_6 : decode cJ1_charAt_3b067 6 = .ok (.aload_n 0, 1) := by decide +kernel
theorem dJ1_charAt_3b067_7 : decode cJ1_charAt_3b067 7 = .ok (.iload_n 1, 1) := by decide +kernel
theorem dJ1_charAt_3b067_8 : decode cJ1_charAt_3b067 8 = .ok (.baload, 1) := by decide +kernel
theorem dJ1_charAt_3b067_9 : decode cJ1_charAt_3b067 9 = .ok (.sipush 255, 3) := by decide +kernel
theorem dJ1_charAt_3b067_12 : decode cJ1_charAt_3b067 12 = .ok (.iand, 1) := by decide +kernel
theorem dJ1_charAt_3b067_13 : decode cJ1_charAt_3b067 13 = .ok (.i2c, 1) := by decide +kernel
theorem dJ1_charAt_3b067_14 : decode cJ1_charAt_3b067 14 = .ok (.ireturn, 1) := by decide +kernel
theorem dJ3_checkIndex_8e157_0 : decode cJ3_checkIndex_8e157 0 = .ok (.iload_n 0, 1) := by decide +kernel
theorem dJ3_checkIndex_8e157_1 : decode cJ3_checkIndex_8e157 1 = .ok (.ifCond .lt 8, 3) := by decide +kernel
theorem dJ3_checkIndex_8e157_4 : decode cJ3_checkIndex_8e157 4 = .ok (.iload_n 0, 1) := by decide +kernel
theorem dJ3_checkIndex_8e157_5 : decode cJ3_checkIndex_8e157 5 = .ok (.iload_n 1, 1) := by decide +kernel
theorem dJ3_checkIndex_8e157_6 : decode cJ3_checkIndex_8e157 6 = .ok (.if_icmp .lt 10, 3) := by decide +kernel
theorem dJ3_checkIndex_8e157_9 : decode cJ3_checkIndex_8e157 9 = .ok (.aload_n 2, 1) := by decide +kernel
theorem dJ3_checkIndex_8e157_10 : decode cJ3_checkIndex_8e157 10 = .ok (.iload_n 0, 1) := by decide +kernel
theorem dJ3_checkIndex_8e157_11 : decode cJ3_checkIndex_8e157 11 = .ok (.iload_n 1, 1) := by decide +kernel
theorem dJ3_checkIndex_8e157_12 : decode cJ3_checkIndex_8e157 12 = .ok (.invokestatic 95, 3) := by decide +kernel
theorem dJ3_checkIndex_8e157_15 : decode cJ3_checkIndex_8e157 15 = .ok (.athrow, 1) := by decide +kernel
theorem dJ3_checkIndex_8e157_16 : decode cJ3_checkIndex_8e157 16 = .ok (.iload_n 0, 1) := by decide +kernel
theorem dJ3_checkIndex_8e157_17 : decode cJ3_checkIndex_8e157 17 = .ok (.ireturn, 1) := by decide +kernel
def strLen (i : Nat) : Int32 := (Int32.ofNat (strN.getD i 0)) >>> ((0 : Int32) &&& 31)
def strCh (i n : Nat) : Int32 := ((((strB.getD i []).getD n 0) &&& 255).toUInt32 % 65536).toInt32
section Str
variable {l : Launch} {E : EnvT} {own : String} {cc : ByteArray} {nL : Nat} {rt : Option FieldType} {R : Room} {cells slots : Nat} {Z : ZT} {α : Type} {rv : α → Option Value} {res : Option (Mem × α)} {σ : Mem} {pc : Nat} {lv : List (Nat × Value)} {st : List Value}
theorem v_eq {res' : Option (Mem × α)} (h : res' = res) (k : V l E own cc nL rt R cells slots Z rv res' σ pc lv st) : V l E own cc nL rt R cells slots Z rv res σ pc lv st := h ▸ k
theorem v_nret {x : Int32} {ty : FieldType} (hn : narrow ty (.int x) = .int x) (d : decode cc pc = .ok (.ireturn, 1)) : V l E own cc nL (some ty) R 0 0 (Zm E) rvI (some (σ, x)) σ pc lv [.int x] := by
  intro σ' r hr p e s m args below meth c H locs ls F hP hS hl
  cases hr
  obtain ⟨hx, hb, -, hrt, hlk, -⟩ := F
  exact W.zret hx hb hrt hn (fun t ht hW => ⟨rfl, by rw [ht]; exact hP, hS.F ht⟩) hS.2.2 d hlk
theorem v_i2c {x : Int32} (d : decode cc pc = .ok (.i2c, 1)) (k : V l E own cc nL rt R cells slots Z rv res σ (pc + 1) lv (.int ((x.toUInt32 % 65536).toInt32) :: st)) : V l E own cc nL rt R cells slots Z rv res σ pc lv (.int x :: st) := by
  intro σ' r hr p e s m args below meth c H locs ls F hP hS hl
  exact lv_i2c F.1 F.2.1 d rfl (k σ' r hr p e s m args below meth c H locs ls F hP hS hl)
theorem v_getsC {index : Nat} (hl0 : Cond.fieldLink own index "java/lang/String" "COMPACT_STRINGS" "Z" ∈ tb) (d : decode cc pc = .ok (.getstatic index, 3)) (k : V l E own cc nL rt R cells slots Z rv res σ (pc + 3) lv (.int 1 :: st)) : V l E own cc nL rt R cells slots Z rv res σ pc lv st := by
  intro σ' r hr p e s m args below meth c H locs ls F hP hS hl
  have K := k σ' r hr p e s m args below meth c H locs ls F hP hS hl
  obtain ⟨hx, hb, -, -, -, hown, hts, hE⟩ := F
  exact va_gets hx hb hE.2.2.2.2.2.1 hS hown (hts _ hl0) (fun _ h => h) d K
theorem v_getsQ {index : Nat} (hl0 : Cond.fieldLink own index "jdk/internal/util/Preconditions" "SIOOBE_FORMATTER" "Ljava/util/function/BiFunction;" ∈ tb) (d : decode cc pc = .ok (.getstatic index, 3)) (k : ∀ v : Value, v.category = 1 → V l E own cc nL rt R cells slots Z rv res σ (pc + 3) lv (v :: st)) : V l E own cc nL rt R cells slots Z rv res σ pc lv st := by
  intro σ' r hr p e s m args below meth c H locs ls F hP hS hl
  have K := fun v h => k v h σ' r hr p e s m args below meth c H locs ls F hP hS hl
  obtain ⟨hx, hb, -, -, -, hown, hts, hE⟩ := F
  rcases hE.2.2.2.2.2.2 with h | ⟨t, h⟩
  · exact va_gets hx hb h hS hown (hts _ hl0) (fun _ h => h) d (K .null rfl)
  · exact va_gets hx hb h hS hown (hts _ hl0) (fun _ h => h) d (K (.ref t) rfl)
theorem v_gcoder {i index : Nat} (hi : i < 9) (hl0 : Cond.fieldLink own index "java/lang/String" "coder" "B" ∈ tb) (d : decode cc pc = .ok (.getfield index, 3)) (k : V l E own cc nL rt R cells slots Z rv res σ (pc + 3) lv (.int 0 :: st)) : V l E own cc nL rt R cells slots Z rv res σ pc lv (.ref (eK E i) :: st) := by
  intro σ' r hr p e s m args below meth c H locs ls F hP hS hl
  have K := k σ' r hr p e s m args below meth c H locs ls F hP hS hl
  obtain ⟨hx, hb, -, -, -, hown, hts, hE⟩ := F
  exact vk_getf hx hb (hE.2.2.2.1.1 i hi).2.1 hS hown (hts _ hl0) (fun _ h => h) d K
theorem v_gvalue {i index : Nat} (hi : i < 9) (hl0 : Cond.fieldLink own index "java/lang/String" "value" "[B" ∈ tb) (d : decode cc pc = .ok (.getfield index, 3)) (k : V l E own cc nL rt R cells slots Z rv res σ (pc + 3) lv (.ref (eV E i) :: st)) : V l E own cc nL rt R cells slots Z rv res σ pc lv (.ref (eK E i) :: st) := by
  intro σ' r hr p e s m args below meth c H locs ls F hP hS hl
  have K := k σ' r hr p e s m args below meth c H locs ls F hP hS hl
  obtain ⟨hx, hb, -, -, -, hown, hts, hE⟩ := F
  exact vk_getf hx hb (hE.2.2.2.1.1 i hi).2.2.1 hS hown (hts _ hl0) (fun _ h => h) d K
theorem v_alenV {i : Nat} (hi : i < 9) (d : decode cc pc = .ok (.arraylength, 1)) (k : V l E own cc nL rt R cells slots Z rv res σ (pc + 1) lv (.int (Int32.ofNat (strN.getD i 0)) :: st)) : V l E own cc nL rt R cells slots Z rv res σ pc lv (.ref (eV E i) :: st) := by
  intro σ' r hr p e s m args below meth c H locs ls F hP hS hl
  have K := k σ' r hr p e s m args below meth c H locs ls F hP hS hl
  obtain ⟨hx, hb, -, -, -, hown, hts, hE⟩ := F
  obtain ⟨cell, h1, h2, h3, h4, h5, h6, h7⟩ := (hE.2.2.2.1.1 i hi).2.2.2
  exact W.alen hx hb (by rw [hS.2.1 _ (Array.getElem?_eq_some_iff.mp h1).1 h7]; exact h1) h2 h5 rfl rfl d K
theorem v_baldV {i : Nat} {j : Int32} (hi : i < 9) (hj : inR j (strN.getD i 0) = true) (d : decode cc pc = .ok (.baload, 1)) (k : V l E own cc nL rt R cells slots Z rv res σ (pc + 1) lv (.int ((strB.getD i []).getD (ix j) 0) :: st)) : V l E own cc nL rt R cells slots Z rv res σ pc lv (.int j :: .ref (eV E i) :: st) := by
  intro σ' r hr p e s m args below meth c H locs ls F hP hS hl
  have K := k σ' r hr p e s m args below meth c H locs ls F hP hS hl
  obtain ⟨hx, hb, -, -, -, hown, hts, hE⟩ := F
  exact va_tb hx hb (hE.2.2.2.1.1 i hi).2.2.2 hS (inR_vp hj) rfl d K
theorem v_callT {β : Type} {rv1 : β → Option Value} {r1 : β} {i : Nat} {y : MethodName} {bytes : ByteArray} {maxL index n : Nat} {ret : Option FieldType} {rm : Room} {As rest st0 : List Value}
    (hM : CT l E y bytes maxL ret rm rv1 (some (σ, r1)) (.ref (eK E i) :: As) σ) (hi : i < 9) (hC : CalV y bytes maxL ret "java/lang/String" n) (hl : Cond.methodLink own index y ∈ tb) (hrm : rm.cells = 0 ∧ rm.slots = 0) (hR : rm.frames + 1 ≤ R.frames ∧ 8 + (maxL + 11) + rm.locals ≤ R.locals) (hcs : cells ≤ R.cells ∧ slots ≤ R.slots) (hn : As.length = n) (hst : st0 = As.reverse ++ .ref (eK E i) :: rest) (hw : (rest.map fun v => v.category).sum ≤ 8) (d : decode cc pc = .ok (.invokevirtual index, 3))
    (k : V l E own cc nL rt R cells slots Z rv res σ (pc + 3) lv ((rv1 r1).toList ++ rest)) : V l E own cc nL rt R cells slots Z rv res σ pc lv st0 := by
  intro σ' r hr p e s m args below meth c H locs ls F hP hS hlv
  have K := fun H1 locs1 a b => k σ' r hr p e s m args below meth c H1 locs1 ls F a b hlv
  have hMet := hM σ r1 rfl
  obtain ⟨hx, hb, hml, -, -, hown, hts, hE⟩ := F
  obtain ⟨c1, c2, c3, c4, c5⟩ := hC
  exact call_go (va_runV (As := As) (rest := rest) (b := eK E i) (C := "java/lang/String") (bytes := bytes) (maxL := maxL) (ret := ret) (index := index) (n := n) ⟨hx, hb, hml, hown, hts⟩ hMet ⟨callB_of n hts (good_code c4) rfl hrm.1 hrm.2 (hts _ c3) (hts _ hl) c5 hR, hts _ c1, hts _ c2⟩ ⟨Pre_blind, vk_recv hE.2.2.2.1 hi hS, fun U hU hW => ⟨rfl, hE.move hS hU hW, by rw [hU]; exact hP⟩⟩ rfl hn hlv.1 hst (lv_room hw) d ⟨hcs.1, hcs.2⟩) hS K
theorem v_callS0 {β : Type} {rv1 : β → Option Value} {r1 : β} {y : MethodName} {bytes : ByteArray} {maxL index n : Nat} {ret : Option FieldType} {rm : Room} {As rest st0 : List Value}
    (hM : CT l E y bytes maxL ret rm rv1 (some (σ, r1)) As σ) (hC : CalS y bytes maxL ret n) (hl : Cond.methodLink own index y ∈ tb) (hrm : rm.cells = 0 ∧ rm.slots = 0) (hR : rm.frames + 1 ≤ R.frames ∧ 8 + (maxL + 11) + rm.locals ≤ R.locals) (hcs : cells ≤ R.cells ∧ slots ≤ R.slots) (hn : As.length = n) (hst : st0 = As.reverse ++ rest) (hw : (rest.map fun v => v.category).sum ≤ 8) (d : decode cc pc = .ok (.invokestatic index, 3))
    (k : V l E own cc nL rt R cells slots Z rv res σ (pc + 3) lv ((rv1 r1).toList ++ rest)) : V l E own cc nL rt R cells slots Z rv res σ pc lv st0 := by
  intro σ' r hr p e s m args below meth c H locs ls F hP hS hlv
  have K := fun H1 locs1 a b => k σ' r hr p e s m args below meth c H1 locs1 ls F a b hlv
  have hMet := hM σ r1 rfl
  obtain ⟨hx, hb, hml, -, -, hown, hts, hE⟩ := F
  obtain ⟨c1, c3, c4, c5⟩ := hC
  exact call_go (va_runS (As := As) (rest := rest) (bytes := bytes) (maxL := maxL) (ret := ret) (index := index) (n := n) ⟨hx, hb, hml, hown, hts⟩ hMet ⟨callB_of n hts (good_code c4) rfl hrm.1 hrm.2 (hts _ c3) (hts _ hl) c5 hR, hts _ c1⟩ ⟨Pre_blind, fun U hU hW => ⟨rfl, hE.move hS hU hW, by rw [hU]; exact hP⟩⟩ rfl hn hlv.1 hst (lv_room hw) d ⟨hcs.1, hcs.2⟩) hS K
end Str
theorem kv_coder : CalV yJ0_coder_7d493 cJ0_coder_7d493 1 (some .byte) "java/lang/String" 0 := ⟨sq542, sq543, sq81, sq544, by decide +kernel⟩
theorem kv_isLatin1 : CalV yJ0_isLatin1_aae02 cJ0_isLatin1_aae02 1 (some .boolean) "java/lang/String" 0 := ⟨sq553, sq554, sq81, sq555, by decide +kernel⟩
theorem kv_slen : CalV yJ0_length_8abf5 cJ0_length_8abf5 1 (some .int) "java/lang/String" 0 := ⟨sq538, sq539, sq81, sq540, by decide +kernel⟩
theorem kv_schr : CalV yJ0_charAt_5068e cJ0_charAt_5068e 2 (some .char) "java/lang/String" 1 := ⟨sq549, sq550, sq81, sq551, by decide +kernel⟩
theorem ks_l1chr : CalS yJ1_charAt_3b067 cJ1_charAt_3b067 2 (some .char) 2 := ⟨sq557, sq82, sq558, by decide +kernel⟩
theorem ks_schk : CalS yJ0_checkIndex_df160 cJ0_checkIndex_df160 2 none 2 := ⟨sq560, sq81, sq561, by decide +kernel⟩
theorem ks_pchk : CalS yJ3_checkIndex_8e157 cJ3_checkIndex_8e157 3 (some .int) 3 := ⟨sq565, sq_pre, sq566, by decide +kernel⟩
def rm_s0 : Room := { frames := 0, cells := 0, slots := 0, locals := 0 }
def rm_s1 : Room := { frames := 1, cells := 0, slots := 0, locals := 22 }
def rm_s2 : Room := { frames := 2, cells := 0, slots := 0, locals := 43 }
def rm_s3 : Room := { frames := 3, cells := 0, slots := 0, locals := 64 }
theorem inR_pos {j : Int32} {n : Nat} (h : inR j n = true) : ¬ j < 0 := fun q => inR_vp h (Or.inl q)
theorem inR_lt32 {j : Int32} {n : Nat} (hn : n < 2 ^ 31) (h : inR j n = true) : j < Int32.ofNat n := by
  obtain ⟨k, hk, e⟩ := vp_in_of (inR_vp h) hn
  rw [e]
  exact nI_lt hk hn
theorem c_coder (l : Launch) (E : EnvT) (i : Nat) (hi : i < 9) (m0 : Mem) : CT l E yJ0_coder_7d493 cJ0_coder_7d493 1 (some .byte) rm_s0 rvI (some (m0, 0)) [.ref (eK E i)] m0 := by
  refine CT.ofV (own := RJ0) (by decide) rfl (Nat.le_of_ble_eq_true rfl) ?_
  show V l E RJ0 cJ0_coder_7d493 1 (some .byte) rm_s0 0 0 (Zm E) rvI _ m0 0 [(0, .ref (eK E i))] []
  refine v_getsC sq545 dJ0_coder_7d493_0 ?_
  refine v_eq (if_neg (show ¬ (1 : Int32) = 0 by decide)) (v_if_eq (tgt := 13) dJ0_coder_7d493_3 (by decide) v_none ?_)
  refine v_aload_n dJ0_coder_7d493_6 rfl 0 rfl ?_
  refine v_gcoder hi sq1166 dJ0_coder_7d493_7 ?_
  refine v_goto (tgt := 14) dJ0_coder_7d493_10 (by decide) ?_
  exact v_nret rfl dJ0_coder_7d493_14
theorem c_isLatin1 (l : Launch) (E : EnvT) (i : Nat) (hi : i < 9) (m0 : Mem) : CT l E yJ0_isLatin1_aae02 cJ0_isLatin1_aae02 1 (some .boolean) rm_s0 rvI (some (m0, 1)) [.ref (eK E i)] m0 := by
  refine CT.ofV (own := RJ0) (by decide) rfl (Nat.le_of_ble_eq_true rfl) ?_
  show V l E RJ0 cJ0_isLatin1_aae02 1 (some .boolean) rm_s0 0 0 (Zm E) rvI _ m0 0 [(0, .ref (eK E i))] []
  refine v_getsC sq545 dJ0_isLatin1_aae02_0 ?_
  refine v_eq (if_neg (show ¬ (1 : Int32) = 0 by decide)) (v_if_eq (tgt := 17) dJ0_isLatin1_aae02_3 (by decide) v_none ?_)
  refine v_aload_n dJ0_isLatin1_aae02_6 rfl 0 rfl ?_
  refine v_gcoder hi sq1166 dJ0_isLatin1_aae02_7 ?_
  refine v_eq (if_pos (show (0 : Int32) = 0 by decide)) (v_if_ne (tgt := 17) dJ0_isLatin1_aae02_10 (by decide) v_none ?_)
  refine v_iconst (v := 1) dJ0_isLatin1_aae02_13 rfl ?_
  refine v_goto (tgt := 18) dJ0_isLatin1_aae02_14 (by decide) ?_
  exact v_nret rfl dJ0_isLatin1_aae02_18
theorem c_slen (l : Launch) (E : EnvT) (i : Nat) (hi : i < 9) (m0 : Mem) : CT l E yJ0_length_8abf5 cJ0_length_8abf5 1 (some .int) rm_s1 rvI (some (m0, strLen i)) [.ref (eK E i)] m0 := by
  refine CT.ofV (own := RJ0) (by decide) rfl (Nat.le_of_ble_eq_true rfl) ?_
  show V l E RJ0 cJ0_length_8abf5 1 (some .int) rm_s1 0 0 (Zm E) rvI _ m0 0 [(0, .ref (eK E i))] []
  refine v_aload_n dJ0_length_8abf5_0 rfl 0 rfl ?_
  refine v_gvalue hi sq1165 dJ0_length_8abf5_1 ?_
  refine v_alenV hi dJ0_length_8abf5_4 ?_
  refine v_aload_n dJ0_length_8abf5_5 rfl 0 rfl ?_
  refine v_callT (As := []) (rest := [.int (Int32.ofNat (strN.getD i 0))]) (c_coder l E i hi m0) hi kv_coder sq541 ⟨rfl, rfl⟩ ⟨Nat.le_of_ble_eq_true rfl, Nat.le_of_ble_eq_true rfl⟩ ⟨Nat.zero_le _, Nat.zero_le _⟩ rfl rfl (Nat.le_of_ble_eq_true rfl) dJ0_length_8abf5_6 ?_
  refine v_ishr (x := Int32.ofNat (strN.getD i 0)) (y := 0) dJ0_length_8abf5_9 ?_
  exact v_iret dJ0_length_8abf5_10
theorem c_pchk (l : Launch) (E : EnvT) (x0 x1 : Int32) (v : Value) (hv : v.category = 1) (h0 : ¬ x0 < 0) (h1 : x0 < x1) (m0 : Mem) : CT l E yJ3_checkIndex_8e157 cJ3_checkIndex_8e157 3 (some .int) rm_s0 rvI (some (m0, x0)) [.int x0, .int x1, v] m0 := by
  refine CT.ofV (own := RJ3) (by decide) rfl (by have e1 : (Value.int x0).category = 1 := rfl; have e2 : (Value.int x1).category = 1 := rfl; simp [lg_sl, hv, e1, e2]) ?_
  have e : lv_args 0 [.int x0, .int x1, v] = [(0, .int x0), (1, .int x1), (2, v)] := by simp [lv_args, Value.category]
  rw [e]
  refine v_iload_n dJ3_checkIndex_8e157_0 rfl 0 rfl ?_
  refine v_eq (if_neg h0) (v_if_lt (tgt := 9) dJ3_checkIndex_8e157_1 (by decide) v_none ?_)
  refine v_iload_n dJ3_checkIndex_8e157_4 rfl 0 rfl ?_
  refine v_iload_n dJ3_checkIndex_8e157_5 rfl 1 rfl ?_
  refine v_eq (if_pos h1) (v_icmp_lt (tgt := 16) dJ3_checkIndex_8e157_6 (by decide) ?_ v_none)
  refine v_iload_n dJ3_checkIndex_8e157_16 rfl 0 rfl ?_
  exact v_iret dJ3_checkIndex_8e157_17
theorem c_schk (l : Launch) (E : EnvT) (x0 x1 : Int32) (h0 : ¬ x0 < 0) (h1 : x0 < x1) (m0 : Mem) : CT l E yJ0_checkIndex_df160 cJ0_checkIndex_df160 2 none rm_s1 rvV (some (m0, ())) [.int x0, .int x1] m0 := by
  refine CT.ofV (own := RJ0) (by decide) rfl (Nat.le_of_ble_eq_true rfl) ?_
  show V l E RJ0 cJ0_checkIndex_df160 2 none rm_s1 0 0 (Zm E) rvV _ m0 0 [(0, .int x0), (1, .int x1)] []
  refine v_iload_n dJ0_checkIndex_df160_0 rfl 0 rfl ?_
  refine v_iload_n dJ0_checkIndex_df160_1 rfl 1 rfl ?_
  refine v_getsQ sq562 dJ0_checkIndex_df160_2 (fun v hv => ?_)
  refine v_callS0 (As := [.int x0, .int x1, v]) (rest := []) (c_pchk l E x0 x1 v hv h0 h1 m0) ks_pchk sq564 ⟨rfl, rfl⟩ ⟨Nat.le_of_ble_eq_true rfl, Nat.le_of_ble_eq_true rfl⟩ ⟨Nat.zero_le _, Nat.zero_le _⟩ rfl rfl (Nat.le_of_ble_eq_true rfl) dJ0_checkIndex_df160_5 ?_
  refine v_pop (va := .int x0) dJ0_checkIndex_df160_8 rfl ?_
  exact v_vret dJ0_checkIndex_df160_9
theorem c_l1chr (l : Launch) (E : EnvT) (i : Nat) (hi : i < 9) (x1 : Int32) (hj : inR x1 (strN.getD i 0) = true) (m0 : Mem) : CT l E yJ1_charAt_3b067 cJ1_charAt_3b067 2 (some .char) rm_s2 rvI (some (m0, strCh i (ix x1))) [.ref (eV E i), .int x1] m0 := by
  have hb : strN.getD i 0 < 2 ^ 31 := by
    have a : ∀ i, i < 9 → strN.getD i 0 < 2 ^ 31 := by decide
    exact a i hi
  refine CT.ofV (own := RJ1) (by decide) rfl (Nat.le_of_ble_eq_true rfl) ?_
  show V l E RJ1 cJ1_charAt_3b067 2 (some .char) rm_s2 0 0 (Zm E) rvI _ m0 0 [(0, .ref (eV E i)), (1, .int x1)] []
  refine v_iload_n dJ1_charAt_3b067_0 rfl 1 rfl ?_
  refine v_aload_n dJ1_charAt_3b067_1 rfl 0 rfl ?_
  refine v_alenV hi dJ1_charAt_3b067_2 ?_
  refine v_callS0 (As := [.int x1, .int (Int32.ofNat (strN.getD i 0))]) (rest := []) (c_schk l E x1 (Int32.ofNat (strN.getD i 0)) (inR_pos hj) (inR_lt32 hb hj) m0) ks_schk sq559 ⟨rfl, rfl⟩ ⟨Nat.le_of_ble_eq_true rfl, Nat.le_of_ble_eq_true rfl⟩ ⟨Nat.zero_le _, Nat.zero_le _⟩ rfl rfl (Nat.le_of_ble_eq_true rfl) dJ1_charAt_3b067_3 ?_
  refine v_aload_n (st := []) dJ1_charAt_3b067_6 rfl 0 rfl ?_
  refine v_iload_n dJ1_charAt_3b067_7 rfl 1 rfl ?_
  refine v_baldV hi hj dJ1_charAt_3b067_8 ?_
  refine v_sipush (v := 255) dJ1_charAt_3b067_9 rfl ?_
  refine v_iand dJ1_charAt_3b067_12 ?_
  refine v_i2c dJ1_charAt_3b067_13 ?_
  exact v_nret (pk_nc _) dJ1_charAt_3b067_14
theorem c_schr (l : Launch) (E : EnvT) (i : Nat) (hi : i < 9) (x1 : Int32) (hj : inR x1 (strN.getD i 0) = true) (m0 : Mem) : CT l E yJ0_charAt_5068e cJ0_charAt_5068e 2 (some .char) rm_s3 rvI (some (m0, strCh i (ix x1))) [.ref (eK E i), .int x1] m0 := by
  refine CT.ofV (own := RJ0) (by decide) rfl (Nat.le_of_ble_eq_true rfl) ?_
  show V l E RJ0 cJ0_charAt_5068e 2 (some .char) rm_s3 0 0 (Zm E) rvI _ m0 0 [(0, .ref (eK E i)), (1, .int x1)] []
  refine v_aload_n dJ0_charAt_5068e_0 rfl 0 rfl ?_
  refine v_callT (As := []) (rest := []) (c_isLatin1 l E i hi m0) hi kv_isLatin1 sq552 ⟨rfl, rfl⟩ ⟨Nat.le_of_ble_eq_true rfl, Nat.le_of_ble_eq_true rfl⟩ ⟨Nat.zero_le _, Nat.zero_le _⟩ rfl rfl (Nat.le_of_ble_eq_true rfl) dJ0_charAt_5068e_1 ?_
  refine v_eq (if_neg (show ¬ (1 : Int32) = 0 by decide)) (v_if_eq (tgt := 16) dJ0_charAt_5068e_4 (by decide) v_none ?_)
  refine v_aload_n dJ0_charAt_5068e_7 rfl 0 rfl ?_
  refine v_gvalue hi sq1165 dJ0_charAt_5068e_8 ?_
  refine v_iload_n dJ0_charAt_5068e_11 rfl 1 rfl ?_
  refine v_callS0 (As := [.ref (eV E i), .int x1]) (rest := []) (c_l1chr l E i hi x1 hj m0) ks_l1chr sq556 ⟨rfl, rfl⟩ ⟨Nat.le_of_ble_eq_true rfl, Nat.le_of_ble_eq_true rfl⟩ ⟨Nat.zero_le _, Nat.zero_le _⟩ rfl rfl (Nat.le_of_ble_eq_true rfl) dJ0_charAt_5068e_12 ?_
  exact v_nret (x := strCh i (ix x1)) (pk_nc _) dJ0_charAt_5068e_15
section Str2
variable {l : Launch} {E : EnvT} {own : String} {cc : ByteArray} {nL : Nat} {rt : Option FieldType} {R : Room} {cells slots : Nat} {Z : ZT} {α : Type} {rv : α → Option Value} {res : Option (Mem × α)} {σ : Mem} {pc : Nat} {lv : List (Nat × Value)} {st : List Value}
theorem v_slen {index : Nat} (i : Nat) (hi : i < 9) (hl : Cond.methodLink own index yJ0_length_8abf5 ∈ tb) (hR : 2 ≤ R.frames ∧ 42 ≤ R.locals) (hcs : cells ≤ R.cells ∧ slots ≤ R.slots) (hw : (st.map fun v => v.category).sum ≤ 8) (d : decode cc pc = .ok (.invokevirtual index, 3)) (k : V l E own cc nL rt R cells slots Z rv res σ (pc + 3) lv (.int (strLen i) :: st)) : V l E own cc nL rt R cells slots Z rv res σ pc lv (.ref (eK E i) :: st) :=
  v_callT (As := []) (rest := st) (c_slen l E i hi σ) hi kv_slen hl ⟨rfl, rfl⟩ ⟨hR.1, hR.2⟩ hcs rfl rfl hw d k
theorem v_schr {index : Nat} {j : Int32} (i : Nat) (hi : i < 9) (hl : Cond.methodLink own index yJ0_charAt_5068e ∈ tb) (hR : 4 ≤ R.frames ∧ 85 ≤ R.locals) (hcs : cells ≤ R.cells ∧ slots ≤ R.slots) (hw : (st.map fun v => v.category).sum ≤ 8) (hj : inR j (strN.getD i 0) = true) (d : decode cc pc = .ok (.invokevirtual index, 3)) (k : V l E own cc nL rt R cells slots Z rv res σ (pc + 3) lv (.int (strCh i (ix j)) :: st)) : V l E own cc nL rt R cells slots Z rv res σ pc lv (.int j :: .ref (eK E i) :: st) :=
  v_callT (As := [.int j]) (rest := st) (c_schr l E i hi j hj σ) hi kv_schr hl ⟨rfl, rfl⟩ ⟨hR.1, hR.2⟩ hcs rfl rfl hw d k
end Str2
