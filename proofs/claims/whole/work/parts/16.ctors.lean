theorem q91 : Cond.instanceMethod objectInit ∈ tb := tbm 91 (by decide +kernel) rfl
theorem q92 : Cond.code objectInit object_method_1_code 1 none ∈ tb := tbm 92 (by decide +kernel) rfl
theorem q98 : Cond.methodLink "BenchOrders$Text" 3 objectInit ∈ tb := tbm 98 (by decide +kernel) rfl
theorem q108 : Cond.arrayClass .byte ∈ tb := tbm 108 (by decide +kernel) rfl
theorem q121 : Cond.methodLink "BenchOrders$Node" 3 objectInit ∈ tb := tbm 121 (by decide +kernel) rfl
theorem q122 : Cond.fieldLink "BenchOrders$Node" 9 "BenchOrders$Node" "parent" "I" ∈ tb := tbm 122 (by decide +kernel) rfl
theorem q125 : Cond.fieldLink "BenchOrders$Node" 15 "BenchOrders$Node" "kind" "I" ∈ tb := tbm 125 (by decide +kernel) rfl
theorem q130 : Cond.fieldLink "BenchOrders$Node" 21 "BenchOrders$Node" "leftOut" "I" ∈ tb := tbm 130 (by decide +kernel) rfl
theorem q153 : Cond.arrayClass .int ∈ tb := tbm 153 (by decide +kernel) rfl
theorem q174 : Cond.methodLink "BenchOrders$Unit" 3 objectInit ∈ tb := tbm 174 (by decide +kernel) rfl
theorem q175 : Cond.classLink "BenchOrders$Unit" 9 "BenchOrders$Words" ∈ tb := tbm 175 (by decide +kernel) rfl
theorem q176 : Cond.instantiable "BenchOrders$Words" 4 ∈ tb := tbm 176 (by decide +kernel) rfl
theorem q178 : Cond.instanceMethod yX7_init ∈ tb := tbm 178 (by decide +kernel) rfl
theorem q179 : Cond.code yX7_init prog_9_method_1_code 1 none ∈ tb := tbm 179 (by decide +kernel) rfl
theorem q180 : Cond.methodLink "BenchOrders$Words" 3 objectInit ∈ tb := tbm 180 (by decide +kernel) rfl
theorem q236 : Cond.methodLink "BenchOrders$State" 3 objectInit ∈ tb := tbm 236 (by decide +kernel) rfl
theorem q237 : Cond.classLink "BenchOrders$State" 28 "BenchOrders$Row" ∈ tb := tbm 237 (by decide +kernel) rfl
theorem q238 : Cond.instantiable "BenchOrders$Row" 2 ∈ tb := tbm 238 (by decide +kernel) rfl
theorem q239 : Cond.methodLink "BenchOrders$State" 30 yX2_init ∈ tb := tbm 239 (by decide +kernel) rfl
theorem q240 : Cond.instanceMethod yX2_init ∈ tb := tbm 240 (by decide +kernel) rfl
theorem q241 : Cond.code yX2_init prog_4_method_1_code 2 none ∈ tb := tbm 241 (by decide +kernel) rfl
theorem q242 : Cond.methodLink "BenchOrders$Row" 3 objectInit ∈ tb := tbm 242 (by decide +kernel) rfl
theorem q243 : Cond.methodLink "BenchOrders$Row" 15 yJ9_max_7cf53 ∈ tb := tbm 243 (by decide +kernel) rfl
theorem q821 : Cond.methodLink "BenchOrdersModel" 1 objectInit ∈ tb := tbm 821 (by decide +kernel) rfl
theorem q895 : Cond.arrayClass .boolean ∈ tb := tbm 895 (by decide +kernel) rfl
theorem nq177 : Cond.methodLinkNest "BenchOrders$Unit" 11 yX7_init "BenchOrders" ∈ lw_tbl := List.mem_of_getElem? (i := 177) (by decide +kernel)
def wTx (E : EnvT) (f : Nat → Nat) : va_W := [(f 0, .inr (4, [.ref (f 1), .int 0])), (f 1, .inl (eC E 0, (100, .inl (fun _ => 0))))]
def wNd (E : EnvT) (f : Nat → Nat) : va_W := [(f 0, .inr (1, [.int (-10001), .int 0, .int 0, .int 0, .int 0, .int 0, .ref (f 1)])), (f 1, .inl (eC E 0, (8, .inl (fun _ => 0))))]
def wWo (E : EnvT) (f : Nat → Nat) : va_W := [(f 0, .inr (7, [.ref (f 1), .ref (f 2), .ref (f 3), .int 0])), (f 1, .inl (eC E 1, (6, .inl (fun _ => 0)))), (f 2, .inl (eC E 1, (6, .inl (fun _ => 0)))), (f 3, .inl (eC E 1, (6, .inl (fun _ => 0))))]
def wUn (E : EnvT) (f : Nat → Nat) : va_W := [(f 0, .inr (6, [.ref (f 1), .int 0, .int 0, .int 0, .int 0, .int 0, .int 0, .int 0, .int 0])), (f 1, .inr (7, [.ref (f 2), .ref (f 3), .ref (f 4), .int 0])), (f 2, .inl (eC E 1, (6, .inl (fun _ => 0)))), (f 3, .inl (eC E 1, (6, .inl (fun _ => 0)))), (f 4, .inl (eC E 1, (6, .inl (fun _ => 0))))]
def wRo (E : EnvT) (n : Nat) (f : Nat → Nat) : va_W := [(f 0, .inr (2, [.ref (f 1), .int 0])), (f 1, .inl (eC E 1, (n, .inl (fun _ => 0))))]
def wSt (E : EnvT) (f : Nat → Nat) : va_W := [(f 0, .inr (3, [.int 1, .ref (f 1), .ref (f 2), .ref (f 3), .ref (f 4), .ref (f 5), .ref (f 7), .ref (f 9), .int 0, .int 0, .int 0, .int 0, .int 0, .int 15, .int 0, .int 0, .int 0])), (f 1, .inl (eC E 1, (16, .inl (fun _ => 0)))), (f 2, .inl (eC E 1, (16, .inl (fun _ => 0)))), (f 3, .inl (eC E 1, (16, .inl (fun _ => 0)))), (f 4, .inl (eC E 1, (48, .inl (fun _ => 0)))), (f 5, .inr (2, [.ref (f 6), .int 0])), (f 6, .inl (eC E 1, (6, .inl (fun _ => 0)))), (f 7, .inr (2, [.ref (f 8), .int 0])), (f 8, .inl (eC E 1, (4, .inl (fun _ => 0)))), (f 9, .inr (2, [.ref (f 10), .int 0])), (f 10, .inl (eC E 1, (4, .inl (fun _ => 0))))]
def wMo (E : EnvT) (f : Nat → Nat) : va_W := [(f 0, .inr (9, [.ref (f 1), .ref (f 2), .ref (f 3), .int 0, .ref (f 4), .ref (f 5), .int 0, .ref (f 6), .ref (f 7), .ref (f 8), .int 0, .ref (f 9), .ref (f 10), .ref (f 11), .ref (f 12), .int 0, .int 0, .int 0, .int 0, .int 0, .int 0, .int 0, .int 0, .long 0])), (f 1, .inl (eC E 1, (347, .inl (upd (upd (upd (fun _ => 0) 0 1) 27 (-10001)) 6 15)))), (f 2, .inl (eC E 1, (347, .inl (fun _ => 0)))), (f 3, .inl (eC E 1, (1735, .inl (fun _ => 0)))), (f 4, .inl (eC E 1, (3, .inl (fun _ => 0)))), (f 5, .inl (eC E 1, (100, .inl (fun _ => 0)))), (f 6, .inl (eC E 1, (8, .inl (fun _ => 0)))), (f 7, .inl (eC E 1, (8, .inl (fun _ => 0)))), (f 8, .inl (eC E 1, (8, .inl (fun _ => 0)))), (f 9, .inl (eC E 1, (20, .inl (fun _ => 0)))), (f 10, .inl (eC E 1, (20, .inl (fun _ => 0)))), (f 11, .inl (eC E 2, (20, .inl (fun _ => 0)))), (f 12, .inl (eC E 1, (20, .inl (fun _ => 0))))]
def rm_X2_init (n : Nat) : Room := { frames := 1, cells := 1, slots := n, locals := 20 }
theorem c_X2_init (l : Launch) (E : EnvT) (x : Int32) (n : Nat) (hx1 : (if x < 1 then 1 else x) = x) (hx2 : ¬ x < 0) (hx3 : x.toNatClampNeg = n) (hx4 : n * 4 ≤ 536870912) : CI l E yX2_init cX2_init 2 (rm_X2_init n) 1 n [.int x] 2 [.null, .int 0] (fun h0 w => ∃ f, f 0 = h0 ∧ w = wRo E n f) := by
  have hx5 : 0 + n ≤ (rm_X2_init n).slots := by simp [rm_X2_init]
  refine CI.ofVC (own := RX2) (by decide) rfl rfl (fun _ => Nat.le_of_ble_eq_true rfl) (fun h0 sz => ?_)
  show VC l E RX2 cX2_init 2 (rm_X2_init n) (AA h0 sz) sz _ 1 n [(h0, .inr (2, [.null, .int 0]))] 0 0 0 [(0, .ref h0), (1, .int x)] []
  refine vi_aload dX2_init_0 rfl 0 rfl ?_
  refine vi_obj q242 q91 q92 (Nat.le_of_ble_eq_true rfl) (Nat.le_of_ble_eq_true rfl) dX2_init_1 ?_
  refine vi_aload dX2_init_4 rfl 0 rfl ?_
  refine vi_iconst (v := 0) dX2_init_5 rfl ?_
  refine vi_put (q := 0) (k := 1) (ws' := [(h0, .inr (2, [.null, .int 0]))]) tyX2 tyX2_ok nmX2 rfl rfl (by decide) inX2 q247 rfl (tyX2_ok 1 (by decide)) (vp_nar_int _) rfl (Nat.le_of_ble_eq_true rfl) rfl dX2_init_6 ?_
  refine vi_aload dX2_init_9 rfl 0 rfl ?_
  refine vi_iload dX2_init_10 rfl 1 rfl ?_
  refine vi_iconst (v := 1) dX2_init_11 rfl ?_
  refine vi_max q243 q244 q78 q245 (Nat.le_of_ble_eq_true rfl) (Nat.le_of_ble_eq_true rfl) ⟨Nat.zero_le _, Nat.zero_le _⟩ dX2_init_12 ?_
  rw [hx1]
  refine vi_newa (atype := .int) (t0 := 1) q153 rfl rfl (fun _ h => by cases h) rfl hx2 hx3 hx4 (Nat.le_of_ble_eq_true rfl) (hx5) dX2_init_15 (fun q1 => ?_)
  refine vi_putF (q := 0) (k := 0) (ws' := [(h0, .inr (2, [.ref q1, .int 0])), (q1, .inl (eC E 1, (n, .inl (fun _ => 0))))]) tyX2 tyX2_ok nmX2 rfl rfl (by decide) inX2 q246 rfl rfl (tyX2_ok 0 (by decide)) rfl rfl (Nat.le_of_ble_eq_true rfl) rfl dX2_init_17 ?_
  exact vi_ret ⟨(fun j => [h0, q1].getD j 0), rfl, rfl⟩ (Nat.le_refl _) (by omega) dX2_init_20
def rm_X1_init : Room := { frames := 1, cells := 1, slots := 8, locals := 20 }
theorem c_X1_init (l : Launch) (E : EnvT) : CI l E yX1_init cX1_init 1 rm_X1_init 1 8 [] 1 [.int 0, .int 0, .int 0, .int 0, .int 0, .int 0, .null] (fun h0 w => ∃ f, f 0 = h0 ∧ w = wNd E f) := by
  refine CI.ofVC (own := RX1) (by decide) rfl rfl (fun _ => Nat.le_of_ble_eq_true rfl) (fun h0 sz => ?_)
  show VC l E RX1 cX1_init 1 rm_X1_init (AA h0 sz) sz _ 1 8 [(h0, .inr (1, [.int 0, .int 0, .int 0, .int 0, .int 0, .int 0, .null]))] 0 0 0 [(0, .ref h0)] []
  refine vi_aload dX1_init_0 rfl 0 rfl ?_
  refine vi_obj q121 q91 q92 (Nat.le_of_ble_eq_true rfl) (Nat.le_of_ble_eq_true rfl) dX1_init_1 ?_
  refine vi_aload dX1_init_4 rfl 0 rfl ?_
  refine vi_sipush (v := (-10001)) dX1_init_5 rfl ?_
  refine vi_put (q := 0) (k := 0) (ws' := [(h0, .inr (1, [.int (-10001), .int 0, .int 0, .int 0, .int 0, .int 0, .null]))]) tyX1 tyX1_ok nmX1 rfl rfl (by decide) inX1 q122 rfl (tyX1_ok 0 (by decide)) (vp_nar_int _) rfl (Nat.le_of_ble_eq_true rfl) rfl dX1_init_8 ?_
  refine vi_aload dX1_init_11 rfl 0 rfl ?_
  refine vi_iconst (v := 0) dX1_init_12 rfl ?_
  refine vi_put (q := 0) (k := 1) (ws' := [(h0, .inr (1, [.int (-10001), .int 0, .int 0, .int 0, .int 0, .int 0, .null]))]) tyX1 tyX1_ok nmX1 rfl rfl (by decide) inX1 q125 rfl (tyX1_ok 1 (by decide)) (vp_nar_int _) rfl (Nat.le_of_ble_eq_true rfl) rfl dX1_init_13 ?_
  refine vi_aload dX1_init_16 rfl 0 rfl ?_
  refine vi_iconst (v := 0) dX1_init_17 rfl ?_
  refine vi_put (q := 0) (k := 2) (ws' := [(h0, .inr (1, [.int (-10001), .int 0, .int 0, .int 0, .int 0, .int 0, .null]))]) tyX1 tyX1_ok nmX1 rfl rfl (by decide) inX1 q128 rfl (tyX1_ok 2 (by decide)) (vp_nar_int _) rfl (Nat.le_of_ble_eq_true rfl) rfl dX1_init_18 ?_
  refine vi_aload dX1_init_21 rfl 0 rfl ?_
  refine vi_iconst (v := 0) dX1_init_22 rfl ?_
  refine vi_put (q := 0) (k := 3) (ws' := [(h0, .inr (1, [.int (-10001), .int 0, .int 0, .int 0, .int 0, .int 0, .null]))]) tyX1 tyX1_ok nmX1 rfl rfl (by decide) inX1 q130 rfl (tyX1_ok 3 (by decide)) (vp_nar_int _) rfl (Nat.le_of_ble_eq_true rfl) rfl dX1_init_23 ?_
  refine vi_aload dX1_init_26 rfl 0 rfl ?_
  refine vi_iconst (v := 0) dX1_init_27 rfl ?_
  refine vi_put (q := 0) (k := 4) (ws' := [(h0, .inr (1, [.int (-10001), .int 0, .int 0, .int 0, .int 0, .int 0, .null]))]) tyX1 tyX1_ok nmX1 rfl rfl (by decide) inX1 q133 rfl (tyX1_ok 4 (by decide)) (vp_nar_int _) rfl (Nat.le_of_ble_eq_true rfl) rfl dX1_init_28 ?_
  refine vi_aload dX1_init_31 rfl 0 rfl ?_
  refine vi_iconst (v := 0) dX1_init_32 rfl ?_
  refine vi_put (q := 0) (k := 5) (ws' := [(h0, .inr (1, [.int (-10001), .int 0, .int 0, .int 0, .int 0, .int 0, .null]))]) tyX1 tyX1_ok nmX1 rfl rfl (by decide) inX1 q135 rfl (tyX1_ok 5 (by decide)) (vp_nar_int _) rfl (Nat.le_of_ble_eq_true rfl) rfl dX1_init_33 ?_
  refine vi_aload dX1_init_36 rfl 0 rfl ?_
  refine vi_bipush (v := 8) dX1_init_37 rfl ?_
  refine vi_newa (N' := 8) (atype := .byte) (t0 := 0) q108 rfl rfl (fun _ h => by cases h) rfl (by decide) (by decide) (Nat.le_of_ble_eq_true rfl) (Nat.le_of_ble_eq_true rfl) (Nat.le_of_ble_eq_true rfl) dX1_init_39 (fun q1 => ?_)
  refine vi_putF (q := 0) (k := 6) (ws' := [(h0, .inr (1, [.int (-10001), .int 0, .int 0, .int 0, .int 0, .int 0, .ref q1])), (q1, .inl (eC E 0, (8, .inl (fun _ => 0))))]) tyX1 tyX1_ok nmX1 rfl rfl (by decide) inX1 q137 rfl rfl (tyX1_ok 6 (by decide)) rfl rfl (Nat.le_of_ble_eq_true rfl) rfl dX1_init_41 ?_
  exact vi_ret ⟨(fun j => [h0, q1].getD j 0), rfl, rfl⟩ (Nat.le_of_ble_eq_true rfl) (Nat.le_of_ble_eq_true rfl) dX1_init_44
def rm_X4_init : Room := { frames := 1, cells := 1, slots := 100, locals := 20 }
theorem c_X4_init (l : Launch) (E : EnvT) : CI l E yX4_init cX4_init 1 rm_X4_init 1 100 [] 4 [.null, .int 0] (fun h0 w => ∃ f, f 0 = h0 ∧ w = wTx E f) := by
  refine CI.ofVC (own := RX4) (by decide) rfl rfl (fun _ => Nat.le_of_ble_eq_true rfl) (fun h0 sz => ?_)
  show VC l E RX4 cX4_init 1 rm_X4_init (AA h0 sz) sz _ 1 100 [(h0, .inr (4, [.null, .int 0]))] 0 0 0 [(0, .ref h0)] []
  refine vi_aload dX4_init_0 rfl 0 rfl ?_
  refine vi_obj q98 q91 q92 (Nat.le_of_ble_eq_true rfl) (Nat.le_of_ble_eq_true rfl) dX4_init_1 ?_
  refine vi_aload dX4_init_4 rfl 0 rfl ?_
  refine vi_bipush (v := 100) dX4_init_5 rfl ?_
  refine vi_newa (N' := 100) (atype := .byte) (t0 := 0) q108 rfl rfl (fun _ h => by cases h) rfl (by decide) (by decide) (Nat.le_of_ble_eq_true rfl) (Nat.le_of_ble_eq_true rfl) (Nat.le_of_ble_eq_true rfl) dX4_init_7 (fun q1 => ?_)
  refine vi_putF (q := 0) (k := 0) (ws' := [(h0, .inr (4, [.ref q1, .int 0])), (q1, .inl (eC E 0, (100, .inl (fun _ => 0))))]) tyX4 tyX4_ok nmX4 rfl rfl (by decide) inX4 q99 rfl rfl (tyX4_ok 0 (by decide)) rfl rfl (Nat.le_of_ble_eq_true rfl) rfl dX4_init_9 ?_
  refine vi_aload dX4_init_12 rfl 0 rfl ?_
  refine vi_iconst (v := 0) dX4_init_13 rfl ?_
  refine vi_put (q := 0) (k := 1) (ws' := [(h0, .inr (4, [.ref q1, .int 0])), (q1, .inl (eC E 0, (100, .inl (fun _ => 0))))]) tyX4 tyX4_ok nmX4 rfl rfl (by decide) inX4 q100 rfl (tyX4_ok 1 (by decide)) (vp_nar_int _) rfl (Nat.le_of_ble_eq_true rfl) rfl dX4_init_14 ?_
  exact vi_ret ⟨(fun j => [h0, q1].getD j 0), rfl, rfl⟩ (Nat.le_of_ble_eq_true rfl) (Nat.le_of_ble_eq_true rfl) dX4_init_17
def rm_X7_init : Room := { frames := 1, cells := 3, slots := 18, locals := 20 }
theorem c_X7_init (l : Launch) (E : EnvT) : CI l E yX7_init cX7_init 1 rm_X7_init 3 18 [] 7 [.null, .null, .null, .int 0] (fun h0 w => ∃ f, f 0 = h0 ∧ w = wWo E f) := by
  refine CI.ofVC (own := RX7) (by decide) rfl rfl (fun _ => Nat.le_of_ble_eq_true rfl) (fun h0 sz => ?_)
  show VC l E RX7 cX7_init 1 rm_X7_init (AA h0 sz) sz _ 3 18 [(h0, .inr (7, [.null, .null, .null, .int 0]))] 0 0 0 [(0, .ref h0)] []
  refine vi_aload dX7_init_0 rfl 0 rfl ?_
  refine vi_obj q180 q91 q92 (Nat.le_of_ble_eq_true rfl) (Nat.le_of_ble_eq_true rfl) dX7_init_1 ?_
  refine vi_aload dX7_init_4 rfl 0 rfl ?_
  refine vi_bipush (v := 6) dX7_init_5 rfl ?_
  refine vi_newa (N' := 6) (atype := .int) (t0 := 1) q153 rfl rfl (fun _ h => by cases h) rfl (by decide) (by decide) (Nat.le_of_ble_eq_true rfl) (Nat.le_of_ble_eq_true rfl) (Nat.le_of_ble_eq_true rfl) dX7_init_7 (fun q1 => ?_)
  refine vi_putF (q := 0) (k := 0) (ws' := [(h0, .inr (7, [.ref q1, .null, .null, .int 0])), (q1, .inl (eC E 1, (6, .inl (fun _ => 0))))]) tyX7 tyX7_ok nmX7 rfl rfl (by decide) inX7 q181 rfl rfl (tyX7_ok 0 (by decide)) rfl rfl (Nat.le_of_ble_eq_true rfl) rfl dX7_init_9 ?_
  refine vi_aload dX7_init_12 rfl 0 rfl ?_
  refine vi_bipush (v := 6) dX7_init_13 rfl ?_
  refine vi_newa (N' := 6) (atype := .int) (t0 := 1) q153 rfl rfl (fun _ h => by cases h) rfl (by decide) (by decide) (Nat.le_of_ble_eq_true rfl) (Nat.le_of_ble_eq_true rfl) (Nat.le_of_ble_eq_true rfl) dX7_init_15 (fun q2 => ?_)
  refine vi_putF (q := 0) (k := 1) (ws' := [(h0, .inr (7, [.ref q1, .ref q2, .null, .int 0])), (q1, .inl (eC E 1, (6, .inl (fun _ => 0)))), (q2, .inl (eC E 1, (6, .inl (fun _ => 0))))]) tyX7 tyX7_ok nmX7 rfl rfl (by decide) inX7 q183 rfl rfl (tyX7_ok 1 (by decide)) rfl rfl (Nat.le_of_ble_eq_true rfl) rfl dX7_init_17 ?_
  refine vi_aload dX7_init_20 rfl 0 rfl ?_
  refine vi_bipush (v := 6) dX7_init_21 rfl ?_
  refine vi_newa (N' := 6) (atype := .int) (t0 := 1) q153 rfl rfl (fun _ h => by cases h) rfl (by decide) (by decide) (Nat.le_of_ble_eq_true rfl) (Nat.le_of_ble_eq_true rfl) (Nat.le_of_ble_eq_true rfl) dX7_init_23 (fun q3 => ?_)
  refine vi_putF (q := 0) (k := 2) (ws' := [(h0, .inr (7, [.ref q1, .ref q2, .ref q3, .int 0])), (q1, .inl (eC E 1, (6, .inl (fun _ => 0)))), (q2, .inl (eC E 1, (6, .inl (fun _ => 0)))), (q3, .inl (eC E 1, (6, .inl (fun _ => 0))))]) tyX7 tyX7_ok nmX7 rfl rfl (by decide) inX7 q185 rfl rfl (tyX7_ok 2 (by decide)) rfl rfl (Nat.le_of_ble_eq_true rfl) rfl dX7_init_25 ?_
  refine vi_aload dX7_init_28 rfl 0 rfl ?_
  refine vi_iconst (v := 0) dX7_init_29 rfl ?_
  refine vi_put (q := 0) (k := 3) (ws' := [(h0, .inr (7, [.ref q1, .ref q2, .ref q3, .int 0])), (q1, .inl (eC E 1, (6, .inl (fun _ => 0)))), (q2, .inl (eC E 1, (6, .inl (fun _ => 0)))), (q3, .inl (eC E 1, (6, .inl (fun _ => 0))))]) tyX7 tyX7_ok nmX7 rfl rfl (by decide) inX7 q187 rfl (tyX7_ok 3 (by decide)) (vp_nar_int _) rfl (Nat.le_of_ble_eq_true rfl) rfl dX7_init_30 ?_
  exact vi_ret ⟨(fun j => [h0, q1, q2, q3].getD j 0), rfl, rfl⟩ (Nat.le_of_ble_eq_true rfl) (Nat.le_of_ble_eq_true rfl) dX7_init_33
def rm_X6_init : Room := { frames := 2, cells := 4, slots := 22, locals := 60 }
theorem c_X6_init (l : Launch) (E : EnvT) : CI l E yX6_init cX6_init 1 rm_X6_init 4 22 [] 6 [.null, .int 0, .int 0, .int 0, .int 0, .int 0, .int 0, .int 0, .int 0] (fun h0 w => ∃ f, f 0 = h0 ∧ w = wUn E f) := by
  refine CI.ofVC (own := RX6) (by decide) rfl rfl (fun _ => Nat.le_of_ble_eq_true rfl) (fun h0 sz => ?_)
  show VC l E RX6 cX6_init 1 rm_X6_init (AA h0 sz) sz _ 4 22 [(h0, .inr (6, [.null, .int 0, .int 0, .int 0, .int 0, .int 0, .int 0, .int 0, .int 0]))] 0 0 0 [(0, .ref h0)] []
  refine vi_aload dX6_init_0 rfl 0 rfl ?_
  refine vi_obj q174 q91 q92 (Nat.le_of_ble_eq_true rfl) (Nat.le_of_ble_eq_true rfl) dX6_init_1 ?_
  refine vi_aload dX6_init_4 rfl 0 rfl ?_
  refine vi_new (ci := 7) (fs := [.null, .null, .null, .int 0]) (T := TX7) (NN := 4) tyX7 tyX7_ok q175 q176 q75 inX7 rfl (fun j hj => by rcases (show j = 0 ∨ j = 1 ∨ j = 2 ∨ j = 3 by omega) with rfl | rfl | rfl | rfl <;> rfl) (Nat.le_of_ble_eq_true rfl) (Nat.le_of_ble_eq_true rfl) dX6_init_5 (fun r5 => ?_)
  refine vi_dup dX6_init_8 rfl ?_
  refine vi_initN (wr := [(h0, .inr (6, [.null, .int 0, .int 0, .int 0, .int 0, .int 0, .int 0, .int 0, .int 0]))]) (As := []) (rest := [.ref r5, .ref h0]) (c_X7_init l E) q178 q75 q179 (by decide +kernel) rfl nq177 ⟨rfl, rfl⟩ ⟨Nat.le_of_ble_eq_true rfl, Nat.le_of_ble_eq_true rfl⟩ ⟨Nat.le_of_ble_eq_true rfl, Nat.le_of_ble_eq_true rfl⟩ rfl rfl (Nat.le_of_ble_eq_true rfl) dX6_init_9 (fun w hw => ?_)
  obtain ⟨f9, rfl, rfl⟩ := hw
  refine vi_putF (q := 0) (k := 0) (ws' := [(h0, .inr (6, [.ref (f9 0), .int 0, .int 0, .int 0, .int 0, .int 0, .int 0, .int 0, .int 0])), (f9 0, .inr (7, [.ref (f9 1), .ref (f9 2), .ref (f9 3), .int 0])), (f9 1, .inl (eC E 1, (6, .inl (fun _ => 0)))), (f9 2, .inl (eC E 1, (6, .inl (fun _ => 0)))), (f9 3, .inl (eC E 1, (6, .inl (fun _ => 0))))]) tyX6 tyX6_ok nmX6 rfl rfl (by decide) inX6 q199 rfl rfl (tyX6_ok 0 (by decide)) rfl rfl (Nat.le_of_ble_eq_true rfl) rfl dX6_init_12 ?_
  refine vi_aload dX6_init_15 rfl 0 rfl ?_
  refine vi_iconst (v := 0) dX6_init_16 rfl ?_
  refine vi_put (q := 0) (k := 1) (ws' := [(h0, .inr (6, [.ref (f9 0), .int 0, .int 0, .int 0, .int 0, .int 0, .int 0, .int 0, .int 0])), (f9 0, .inr (7, [.ref (f9 1), .ref (f9 2), .ref (f9 3), .int 0])), (f9 1, .inl (eC E 1, (6, .inl (fun _ => 0)))), (f9 2, .inl (eC E 1, (6, .inl (fun _ => 0)))), (f9 3, .inl (eC E 1, (6, .inl (fun _ => 0))))]) tyX6 tyX6_ok nmX6 rfl rfl (by decide) inX6 q201 rfl (tyX6_ok 1 (by decide)) (vp_nar_int _) rfl (Nat.le_of_ble_eq_true rfl) rfl dX6_init_17 ?_
  refine vi_aload dX6_init_20 rfl 0 rfl ?_
  refine vi_iconst (v := 0) dX6_init_21 rfl ?_
  refine vi_put (q := 0) (k := 2) (ws' := [(h0, .inr (6, [.ref (f9 0), .int 0, .int 0, .int 0, .int 0, .int 0, .int 0, .int 0, .int 0])), (f9 0, .inr (7, [.ref (f9 1), .ref (f9 2), .ref (f9 3), .int 0])), (f9 1, .inl (eC E 1, (6, .inl (fun _ => 0)))), (f9 2, .inl (eC E 1, (6, .inl (fun _ => 0)))), (f9 3, .inl (eC E 1, (6, .inl (fun _ => 0))))]) tyX6 tyX6_ok nmX6 rfl rfl (by decide) inX6 q202 rfl (tyX6_ok 2 (by decide)) (vp_nar_int _) rfl (Nat.le_of_ble_eq_true rfl) rfl dX6_init_22 ?_
  refine vi_aload dX6_init_25 rfl 0 rfl ?_
  refine vi_iconst (v := 0) dX6_init_26 rfl ?_
  refine vi_put (q := 0) (k := 3) (ws' := [(h0, .inr (6, [.ref (f9 0), .int 0, .int 0, .int 0, .int 0, .int 0, .int 0, .int 0, .int 0])), (f9 0, .inr (7, [.ref (f9 1), .ref (f9 2), .ref (f9 3), .int 0])), (f9 1, .inl (eC E 1, (6, .inl (fun _ => 0)))), (f9 2, .inl (eC E 1, (6, .inl (fun _ => 0)))), (f9 3, .inl (eC E 1, (6, .inl (fun _ => 0))))]) tyX6 tyX6_ok nmX6 rfl rfl (by decide) inX6 q203 rfl (tyX6_ok 3 (by decide)) rfl rfl (Nat.le_of_ble_eq_true rfl) rfl dX6_init_27 ?_
  refine vi_aload dX6_init_30 rfl 0 rfl ?_
  refine vi_iconst (v := 0) dX6_init_31 rfl ?_
  refine vi_put (q := 0) (k := 4) (ws' := [(h0, .inr (6, [.ref (f9 0), .int 0, .int 0, .int 0, .int 0, .int 0, .int 0, .int 0, .int 0])), (f9 0, .inr (7, [.ref (f9 1), .ref (f9 2), .ref (f9 3), .int 0])), (f9 1, .inl (eC E 1, (6, .inl (fun _ => 0)))), (f9 2, .inl (eC E 1, (6, .inl (fun _ => 0)))), (f9 3, .inl (eC E 1, (6, .inl (fun _ => 0))))]) tyX6 tyX6_ok nmX6 rfl rfl (by decide) inX6 q205 rfl (tyX6_ok 4 (by decide)) (vp_nar_int _) rfl (Nat.le_of_ble_eq_true rfl) rfl dX6_init_32 ?_
  refine vi_aload dX6_init_35 rfl 0 rfl ?_
  refine vi_iconst (v := 0) dX6_init_36 rfl ?_
  refine vi_put (q := 0) (k := 5) (ws' := [(h0, .inr (6, [.ref (f9 0), .int 0, .int 0, .int 0, .int 0, .int 0, .int 0, .int 0, .int 0])), (f9 0, .inr (7, [.ref (f9 1), .ref (f9 2), .ref (f9 3), .int 0])), (f9 1, .inl (eC E 1, (6, .inl (fun _ => 0)))), (f9 2, .inl (eC E 1, (6, .inl (fun _ => 0)))), (f9 3, .inl (eC E 1, (6, .inl (fun _ => 0))))]) tyX6 tyX6_ok nmX6 rfl rfl (by decide) inX6 q206 rfl (tyX6_ok 5 (by decide)) (vp_nar_int _) rfl (Nat.le_of_ble_eq_true rfl) rfl dX6_init_37 ?_
  refine vi_aload dX6_init_40 rfl 0 rfl ?_
  refine vi_iconst (v := 0) dX6_init_41 rfl ?_
  refine vi_put (q := 0) (k := 6) (ws' := [(h0, .inr (6, [.ref (f9 0), .int 0, .int 0, .int 0, .int 0, .int 0, .int 0, .int 0, .int 0])), (f9 0, .inr (7, [.ref (f9 1), .ref (f9 2), .ref (f9 3), .int 0])), (f9 1, .inl (eC E 1, (6, .inl (fun _ => 0)))), (f9 2, .inl (eC E 1, (6, .inl (fun _ => 0)))), (f9 3, .inl (eC E 1, (6, .inl (fun _ => 0))))]) tyX6 tyX6_ok nmX6 rfl rfl (by decide) inX6 q207 rfl (tyX6_ok 6 (by decide)) rfl rfl (Nat.le_of_ble_eq_true rfl) rfl dX6_init_42 ?_
  refine vi_aload dX6_init_45 rfl 0 rfl ?_
  refine vi_iconst (v := 0) dX6_init_46 rfl ?_
  refine vi_put (q := 0) (k := 7) (ws' := [(h0, .inr (6, [.ref (f9 0), .int 0, .int 0, .int 0, .int 0, .int 0, .int 0, .int 0, .int 0])), (f9 0, .inr (7, [.ref (f9 1), .ref (f9 2), .ref (f9 3), .int 0])), (f9 1, .inl (eC E 1, (6, .inl (fun _ => 0)))), (f9 2, .inl (eC E 1, (6, .inl (fun _ => 0)))), (f9 3, .inl (eC E 1, (6, .inl (fun _ => 0))))]) tyX6 tyX6_ok nmX6 rfl rfl (by decide) inX6 q209 rfl (tyX6_ok 7 (by decide)) rfl rfl (Nat.le_of_ble_eq_true rfl) rfl dX6_init_47 ?_
  refine vi_aload dX6_init_50 rfl 0 rfl ?_
  refine vi_iconst (v := 0) dX6_init_51 rfl ?_
  refine vi_put (q := 0) (k := 8) (ws' := [(h0, .inr (6, [.ref (f9 0), .int 0, .int 0, .int 0, .int 0, .int 0, .int 0, .int 0, .int 0])), (f9 0, .inr (7, [.ref (f9 1), .ref (f9 2), .ref (f9 3), .int 0])), (f9 1, .inl (eC E 1, (6, .inl (fun _ => 0)))), (f9 2, .inl (eC E 1, (6, .inl (fun _ => 0)))), (f9 3, .inl (eC E 1, (6, .inl (fun _ => 0))))]) tyX6 tyX6_ok nmX6 rfl rfl (by decide) inX6 q210 rfl (tyX6_ok 8 (by decide)) (vp_nar_int _) rfl (Nat.le_of_ble_eq_true rfl) rfl dX6_init_52 ?_
  exact vi_ret ⟨(fun j => [h0, (f9 0), (f9 1), (f9 2), (f9 3)].getD j 0), rfl, rfl⟩ (Nat.le_of_ble_eq_true rfl) (Nat.le_of_ble_eq_true rfl) dX6_init_55
def rm_X3_init : Room := { frames := 2, cells := 10, slots := 116, locals := 60 }
theorem c_X3_init (l : Launch) (E : EnvT) : CI l E yX3_init cX3_init 1 rm_X3_init 10 116 [] 3 [.int 0, .null, .null, .null, .null, .null, .null, .null, .int 0, .int 0, .int 0, .int 0, .int 0, .int 0, .int 0, .int 0, .int 0] (fun h0 w => ∃ f, f 0 = h0 ∧ w = wSt E f) := by
  refine CI.ofVC (own := RX3) (by decide) rfl rfl (fun _ => Nat.le_of_ble_eq_true rfl) (fun h0 sz => ?_)
  show VC l E RX3 cX3_init 1 rm_X3_init (AA h0 sz) sz _ 10 116 [(h0, .inr (3, [.int 0, .null, .null, .null, .null, .null, .null, .null, .int 0, .int 0, .int 0, .int 0, .int 0, .int 0, .int 0, .int 0, .int 0]))] 0 0 0 [(0, .ref h0)] []
  refine vi_aload dX3_init_0 rfl 0 rfl ?_
  refine vi_obj q236 q91 q92 (Nat.le_of_ble_eq_true rfl) (Nat.le_of_ble_eq_true rfl) dX3_init_1 ?_
  refine vi_aload dX3_init_4 rfl 0 rfl ?_
  refine vi_iconst (v := 1) dX3_init_5 rfl ?_
  refine vi_put (q := 0) (k := 0) (ws' := [(h0, .inr (3, [.int 1, .null, .null, .null, .null, .null, .null, .null, .int 0, .int 0, .int 0, .int 0, .int 0, .int 0, .int 0, .int 0, .int 0]))]) tyX3 tyX3_ok nmX3 rfl rfl (by decide) inX3 q255 rfl (tyX3_ok 0 (by decide)) (vp_nar_int _) rfl (Nat.le_of_ble_eq_true rfl) rfl dX3_init_6 ?_
  refine vi_aload dX3_init_9 rfl 0 rfl ?_
  refine vi_bipush (v := 16) dX3_init_10 rfl ?_
  refine vi_newa (N' := 16) (atype := .int) (t0 := 1) q153 rfl rfl (fun _ h => by cases h) rfl (by decide) (by decide) (Nat.le_of_ble_eq_true rfl) (Nat.le_of_ble_eq_true rfl) (Nat.le_of_ble_eq_true rfl) dX3_init_12 (fun q1 => ?_)
  refine vi_putF (q := 0) (k := 1) (ws' := [(h0, .inr (3, [.int 1, .ref q1, .null, .null, .null, .null, .null, .null, .int 0, .int 0, .int 0, .int 0, .int 0, .int 0, .int 0, .int 0, .int 0])), (q1, .inl (eC E 1, (16, .inl (fun _ => 0))))]) tyX3 tyX3_ok nmX3 rfl rfl (by decide) inX3 q257 rfl rfl (tyX3_ok 1 (by decide)) rfl rfl (Nat.le_of_ble_eq_true rfl) rfl dX3_init_14 ?_
  refine vi_aload dX3_init_17 rfl 0 rfl ?_
  refine vi_bipush (v := 16) dX3_init_18 rfl ?_
  refine vi_newa (N' := 16) (atype := .int) (t0 := 1) q153 rfl rfl (fun _ h => by cases h) rfl (by decide) (by decide) (Nat.le_of_ble_eq_true rfl) (Nat.le_of_ble_eq_true rfl) (Nat.le_of_ble_eq_true rfl) dX3_init_20 (fun q2 => ?_)
  refine vi_putF (q := 0) (k := 2) (ws' := [(h0, .inr (3, [.int 1, .ref q1, .ref q2, .null, .null, .null, .null, .null, .int 0, .int 0, .int 0, .int 0, .int 0, .int 0, .int 0, .int 0, .int 0])), (q1, .inl (eC E 1, (16, .inl (fun _ => 0)))), (q2, .inl (eC E 1, (16, .inl (fun _ => 0))))]) tyX3 tyX3_ok nmX3 rfl rfl (by decide) inX3 q259 rfl rfl (tyX3_ok 2 (by decide)) rfl rfl (Nat.le_of_ble_eq_true rfl) rfl dX3_init_22 ?_
  refine vi_aload dX3_init_25 rfl 0 rfl ?_
  refine vi_bipush (v := 16) dX3_init_26 rfl ?_
  refine vi_newa (N' := 16) (atype := .int) (t0 := 1) q153 rfl rfl (fun _ h => by cases h) rfl (by decide) (by decide) (Nat.le_of_ble_eq_true rfl) (Nat.le_of_ble_eq_true rfl) (Nat.le_of_ble_eq_true rfl) dX3_init_28 (fun q3 => ?_)
  refine vi_putF (q := 0) (k := 3) (ws' := [(h0, .inr (3, [.int 1, .ref q1, .ref q2, .ref q3, .null, .null, .null, .null, .int 0, .int 0, .int 0, .int 0, .int 0, .int 0, .int 0, .int 0, .int 0])), (q1, .inl (eC E 1, (16, .inl (fun _ => 0)))), (q2, .inl (eC E 1, (16, .inl (fun _ => 0)))), (q3, .inl (eC E 1, (16, .inl (fun _ => 0))))]) tyX3 tyX3_ok nmX3 rfl rfl (by decide) inX3 q261 rfl rfl (tyX3_ok 3 (by decide)) rfl rfl (Nat.le_of_ble_eq_true rfl) rfl dX3_init_30 ?_
  refine vi_aload dX3_init_33 rfl 0 rfl ?_
  refine vi_bipush (v := 48) dX3_init_34 rfl ?_
  refine vi_newa (N' := 48) (atype := .int) (t0 := 1) q153 rfl rfl (fun _ h => by cases h) rfl (by decide) (by decide) (Nat.le_of_ble_eq_true rfl) (Nat.le_of_ble_eq_true rfl) (Nat.le_of_ble_eq_true rfl) dX3_init_36 (fun q4 => ?_)
  refine vi_putF (q := 0) (k := 4) (ws' := [(h0, .inr (3, [.int 1, .ref q1, .ref q2, .ref q3, .ref q4, .null, .null, .null, .int 0, .int 0, .int 0, .int 0, .int 0, .int 0, .int 0, .int 0, .int 0])), (q1, .inl (eC E 1, (16, .inl (fun _ => 0)))), (q2, .inl (eC E 1, (16, .inl (fun _ => 0)))), (q3, .inl (eC E 1, (16, .inl (fun _ => 0)))), (q4, .inl (eC E 1, (48, .inl (fun _ => 0))))]) tyX3 tyX3_ok nmX3 rfl rfl (by decide) inX3 q263 rfl rfl (tyX3_ok 4 (by decide)) rfl rfl (Nat.le_of_ble_eq_true rfl) rfl dX3_init_38 ?_
  refine vi_aload dX3_init_41 rfl 0 rfl ?_
  refine vi_new (ci := 2) (fs := [.null, .int 0]) (T := TX2) (NN := 2) tyX2 tyX2_ok q237 q238 q77 inX2 rfl (fun j hj => by rcases (show j = 0 ∨ j = 1 by omega) with rfl | rfl <;> rfl) (Nat.le_of_ble_eq_true rfl) (Nat.le_of_ble_eq_true rfl) dX3_init_42 (fun r42 => ?_)
  refine vi_dup dX3_init_45 rfl ?_
  refine vi_bipush (v := 6) dX3_init_46 rfl ?_
  refine vi_init (wr := [(h0, .inr (3, [.int 1, .ref q1, .ref q2, .ref q3, .ref q4, .null, .null, .null, .int 0, .int 0, .int 0, .int 0, .int 0, .int 0, .int 0, .int 0, .int 0])), (q1, .inl (eC E 1, (16, .inl (fun _ => 0)))), (q2, .inl (eC E 1, (16, .inl (fun _ => 0)))), (q3, .inl (eC E 1, (16, .inl (fun _ => 0)))), (q4, .inl (eC E 1, (48, .inl (fun _ => 0))))]) (As := [.int 6]) (rest := [.ref r42, .ref h0]) (c_X2_init l E 6 6 (by decide) (by decide) (by decide) (by decide)) q240 q77 q241 (by decide +kernel) rfl q239 ⟨rfl, rfl⟩ ⟨Nat.le_of_ble_eq_true rfl, Nat.le_of_ble_eq_true rfl⟩ ⟨Nat.le_of_ble_eq_true rfl, Nat.le_of_ble_eq_true rfl⟩ rfl rfl (Nat.le_of_ble_eq_true rfl) dX3_init_48 (fun w hw => ?_)
  obtain ⟨f48, rfl, rfl⟩ := hw
  refine vi_putF (q := 0) (k := 5) (ws' := [(h0, .inr (3, [.int 1, .ref q1, .ref q2, .ref q3, .ref q4, .ref (f48 0), .null, .null, .int 0, .int 0, .int 0, .int 0, .int 0, .int 0, .int 0, .int 0, .int 0])), (q1, .inl (eC E 1, (16, .inl (fun _ => 0)))), (q2, .inl (eC E 1, (16, .inl (fun _ => 0)))), (q3, .inl (eC E 1, (16, .inl (fun _ => 0)))), (q4, .inl (eC E 1, (48, .inl (fun _ => 0)))), (f48 0, .inr (2, [.ref (f48 1), .int 0])), (f48 1, .inl (eC E 1, (6, .inl (fun _ => 0))))]) tyX3 tyX3_ok nmX3 rfl rfl (by decide) inX3 q264 rfl rfl (tyX3_ok 5 (by decide)) rfl rfl (Nat.le_of_ble_eq_true rfl) rfl dX3_init_51 ?_
  refine vi_aload dX3_init_54 rfl 0 rfl ?_
  refine vi_new (ci := 2) (fs := [.null, .int 0]) (T := TX2) (NN := 2) tyX2 tyX2_ok q237 q238 q77 inX2 rfl (fun j hj => by rcases (show j = 0 ∨ j = 1 by omega) with rfl | rfl <;> rfl) (Nat.le_of_ble_eq_true rfl) (Nat.le_of_ble_eq_true rfl) dX3_init_55 (fun r55 => ?_)
  refine vi_dup dX3_init_58 rfl ?_
  refine vi_iconst (v := 4) dX3_init_59 rfl ?_
  refine vi_init (wr := [(h0, .inr (3, [.int 1, .ref q1, .ref q2, .ref q3, .ref q4, .ref (f48 0), .null, .null, .int 0, .int 0, .int 0, .int 0, .int 0, .int 0, .int 0, .int 0, .int 0])), (q1, .inl (eC E 1, (16, .inl (fun _ => 0)))), (q2, .inl (eC E 1, (16, .inl (fun _ => 0)))), (q3, .inl (eC E 1, (16, .inl (fun _ => 0)))), (q4, .inl (eC E 1, (48, .inl (fun _ => 0)))), (f48 0, .inr (2, [.ref (f48 1), .int 0])), (f48 1, .inl (eC E 1, (6, .inl (fun _ => 0))))]) (As := [.int 4]) (rest := [.ref r55, .ref h0]) (c_X2_init l E 4 4 (by decide) (by decide) (by decide) (by decide)) q240 q77 q241 (by decide +kernel) rfl q239 ⟨rfl, rfl⟩ ⟨Nat.le_of_ble_eq_true rfl, Nat.le_of_ble_eq_true rfl⟩ ⟨Nat.le_of_ble_eq_true rfl, Nat.le_of_ble_eq_true rfl⟩ rfl rfl (Nat.le_of_ble_eq_true rfl) dX3_init_60 (fun w hw => ?_)
  obtain ⟨f60, rfl, rfl⟩ := hw
  refine vi_putF (q := 0) (k := 6) (ws' := [(h0, .inr (3, [.int 1, .ref q1, .ref q2, .ref q3, .ref q4, .ref (f48 0), .ref (f60 0), .null, .int 0, .int 0, .int 0, .int 0, .int 0, .int 0, .int 0, .int 0, .int 0])), (q1, .inl (eC E 1, (16, .inl (fun _ => 0)))), (q2, .inl (eC E 1, (16, .inl (fun _ => 0)))), (q3, .inl (eC E 1, (16, .inl (fun _ => 0)))), (q4, .inl (eC E 1, (48, .inl (fun _ => 0)))), (f48 0, .inr (2, [.ref (f48 1), .int 0])), (f48 1, .inl (eC E 1, (6, .inl (fun _ => 0)))), (f60 0, .inr (2, [.ref (f60 1), .int 0])), (f60 1, .inl (eC E 1, (4, .inl (fun _ => 0))))]) tyX3 tyX3_ok nmX3 rfl rfl (by decide) inX3 q266 rfl rfl (tyX3_ok 6 (by decide)) rfl rfl (Nat.le_of_ble_eq_true rfl) rfl dX3_init_63 ?_
  refine vi_aload dX3_init_66 rfl 0 rfl ?_
  refine vi_new (ci := 2) (fs := [.null, .int 0]) (T := TX2) (NN := 2) tyX2 tyX2_ok q237 q238 q77 inX2 rfl (fun j hj => by rcases (show j = 0 ∨ j = 1 by omega) with rfl | rfl <;> rfl) (Nat.le_of_ble_eq_true rfl) (Nat.le_of_ble_eq_true rfl) dX3_init_67 (fun r67 => ?_)
  refine vi_dup dX3_init_70 rfl ?_
  refine vi_iconst (v := 4) dX3_init_71 rfl ?_
  refine vi_init (wr := [(h0, .inr (3, [.int 1, .ref q1, .ref q2, .ref q3, .ref q4, .ref (f48 0), .ref (f60 0), .null, .int 0, .int 0, .int 0, .int 0, .int 0, .int 0, .int 0, .int 0, .int 0])), (q1, .inl (eC E 1, (16, .inl (fun _ => 0)))), (q2, .inl (eC E 1, (16, .inl (fun _ => 0)))), (q3, .inl (eC E 1, (16, .inl (fun _ => 0)))), (q4, .inl (eC E 1, (48, .inl (fun _ => 0)))), (f48 0, .inr (2, [.ref (f48 1), .int 0])), (f48 1, .inl (eC E 1, (6, .inl (fun _ => 0)))), (f60 0, .inr (2, [.ref (f60 1), .int 0])), (f60 1, .inl (eC E 1, (4, .inl (fun _ => 0))))]) (As := [.int 4]) (rest := [.ref r67, .ref h0]) (c_X2_init l E 4 4 (by decide) (by decide) (by decide) (by decide)) q240 q77 q241 (by decide +kernel) rfl q239 ⟨rfl, rfl⟩ ⟨Nat.le_of_ble_eq_true rfl, Nat.le_of_ble_eq_true rfl⟩ ⟨Nat.le_of_ble_eq_true rfl, Nat.le_of_ble_eq_true rfl⟩ rfl rfl (Nat.le_of_ble_eq_true rfl) dX3_init_72 (fun w hw => ?_)
  obtain ⟨f72, rfl, rfl⟩ := hw
  refine vi_putF (q := 0) (k := 7) (ws' := [(h0, .inr (3, [.int 1, .ref q1, .ref q2, .ref q3, .ref q4, .ref (f48 0), .ref (f60 0), .ref (f72 0), .int 0, .int 0, .int 0, .int 0, .int 0, .int 0, .int 0, .int 0, .int 0])), (q1, .inl (eC E 1, (16, .inl (fun _ => 0)))), (q2, .inl (eC E 1, (16, .inl (fun _ => 0)))), (q3, .inl (eC E 1, (16, .inl (fun _ => 0)))), (q4, .inl (eC E 1, (48, .inl (fun _ => 0)))), (f48 0, .inr (2, [.ref (f48 1), .int 0])), (f48 1, .inl (eC E 1, (6, .inl (fun _ => 0)))), (f60 0, .inr (2, [.ref (f60 1), .int 0])), (f60 1, .inl (eC E 1, (4, .inl (fun _ => 0)))), (f72 0, .inr (2, [.ref (f72 1), .int 0])), (f72 1, .inl (eC E 1, (4, .inl (fun _ => 0))))]) tyX3 tyX3_ok nmX3 rfl rfl (by decide) inX3 q268 rfl rfl (tyX3_ok 7 (by decide)) rfl rfl (Nat.le_of_ble_eq_true rfl) rfl dX3_init_75 ?_
  refine vi_aload dX3_init_78 rfl 0 rfl ?_
  refine vi_iconst (v := 0) dX3_init_79 rfl ?_
  refine vi_put (q := 0) (k := 8) (ws' := [(h0, .inr (3, [.int 1, .ref q1, .ref q2, .ref q3, .ref q4, .ref (f48 0), .ref (f60 0), .ref (f72 0), .int 0, .int 0, .int 0, .int 0, .int 0, .int 0, .int 0, .int 0, .int 0])), (q1, .inl (eC E 1, (16, .inl (fun _ => 0)))), (q2, .inl (eC E 1, (16, .inl (fun _ => 0)))), (q3, .inl (eC E 1, (16, .inl (fun _ => 0)))), (q4, .inl (eC E 1, (48, .inl (fun _ => 0)))), (f48 0, .inr (2, [.ref (f48 1), .int 0])), (f48 1, .inl (eC E 1, (6, .inl (fun _ => 0)))), (f60 0, .inr (2, [.ref (f60 1), .int 0])), (f60 1, .inl (eC E 1, (4, .inl (fun _ => 0)))), (f72 0, .inr (2, [.ref (f72 1), .int 0])), (f72 1, .inl (eC E 1, (4, .inl (fun _ => 0))))]) tyX3 tyX3_ok nmX3 rfl rfl (by decide) inX3 q270 rfl (tyX3_ok 8 (by decide)) (vp_nar_int _) rfl (Nat.le_of_ble_eq_true rfl) rfl dX3_init_80 ?_
  refine vi_aload dX3_init_83 rfl 0 rfl ?_
  refine vi_iconst (v := 0) dX3_init_84 rfl ?_
  refine vi_put (q := 0) (k := 9) (ws' := [(h0, .inr (3, [.int 1, .ref q1, .ref q2, .ref q3, .ref q4, .ref (f48 0), .ref (f60 0), .ref (f72 0), .int 0, .int 0, .int 0, .int 0, .int 0, .int 0, .int 0, .int 0, .int 0])), (q1, .inl (eC E 1, (16, .inl (fun _ => 0)))), (q2, .inl (eC E 1, (16, .inl (fun _ => 0)))), (q3, .inl (eC E 1, (16, .inl (fun _ => 0)))), (q4, .inl (eC E 1, (48, .inl (fun _ => 0)))), (f48 0, .inr (2, [.ref (f48 1), .int 0])), (f48 1, .inl (eC E 1, (6, .inl (fun _ => 0)))), (f60 0, .inr (2, [.ref (f60 1), .int 0])), (f60 1, .inl (eC E 1, (4, .inl (fun _ => 0)))), (f72 0, .inr (2, [.ref (f72 1), .int 0])), (f72 1, .inl (eC E 1, (4, .inl (fun _ => 0))))]) tyX3 tyX3_ok nmX3 rfl rfl (by decide) inX3 q271 rfl (tyX3_ok 9 (by decide)) (vp_nar_int _) rfl (Nat.le_of_ble_eq_true rfl) rfl dX3_init_85 ?_
  refine vi_aload dX3_init_88 rfl 0 rfl ?_
  refine vi_iconst (v := 0) dX3_init_89 rfl ?_
  refine vi_put (q := 0) (k := 10) (ws' := [(h0, .inr (3, [.int 1, .ref q1, .ref q2, .ref q3, .ref q4, .ref (f48 0), .ref (f60 0), .ref (f72 0), .int 0, .int 0, .int 0, .int 0, .int 0, .int 0, .int 0, .int 0, .int 0])), (q1, .inl (eC E 1, (16, .inl (fun _ => 0)))), (q2, .inl (eC E 1, (16, .inl (fun _ => 0)))), (q3, .inl (eC E 1, (16, .inl (fun _ => 0)))), (q4, .inl (eC E 1, (48, .inl (fun _ => 0)))), (f48 0, .inr (2, [.ref (f48 1), .int 0])), (f48 1, .inl (eC E 1, (6, .inl (fun _ => 0)))), (f60 0, .inr (2, [.ref (f60 1), .int 0])), (f60 1, .inl (eC E 1, (4, .inl (fun _ => 0)))), (f72 0, .inr (2, [.ref (f72 1), .int 0])), (f72 1, .inl (eC E 1, (4, .inl (fun _ => 0))))]) tyX3 tyX3_ok nmX3 rfl rfl (by decide) inX3 q272 rfl (tyX3_ok 10 (by decide)) (vp_nar_int _) rfl (Nat.le_of_ble_eq_true rfl) rfl dX3_init_90 ?_
  refine vi_aload dX3_init_93 rfl 0 rfl ?_
  refine vi_iconst (v := 0) dX3_init_94 rfl ?_
  refine vi_put (q := 0) (k := 11) (ws' := [(h0, .inr (3, [.int 1, .ref q1, .ref q2, .ref q3, .ref q4, .ref (f48 0), .ref (f60 0), .ref (f72 0), .int 0, .int 0, .int 0, .int 0, .int 0, .int 0, .int 0, .int 0, .int 0])), (q1, .inl (eC E 1, (16, .inl (fun _ => 0)))), (q2, .inl (eC E 1, (16, .inl (fun _ => 0)))), (q3, .inl (eC E 1, (16, .inl (fun _ => 0)))), (q4, .inl (eC E 1, (48, .inl (fun _ => 0)))), (f48 0, .inr (2, [.ref (f48 1), .int 0])), (f48 1, .inl (eC E 1, (6, .inl (fun _ => 0)))), (f60 0, .inr (2, [.ref (f60 1), .int 0])), (f60 1, .inl (eC E 1, (4, .inl (fun _ => 0)))), (f72 0, .inr (2, [.ref (f72 1), .int 0])), (f72 1, .inl (eC E 1, (4, .inl (fun _ => 0))))]) tyX3 tyX3_ok nmX3 rfl rfl (by decide) inX3 q273 rfl (tyX3_ok 11 (by decide)) (vp_nar_int _) rfl (Nat.le_of_ble_eq_true rfl) rfl dX3_init_95 ?_
  refine vi_aload dX3_init_98 rfl 0 rfl ?_
  refine vi_iconst (v := 0) dX3_init_99 rfl ?_
  refine vi_put (q := 0) (k := 12) (ws' := [(h0, .inr (3, [.int 1, .ref q1, .ref q2, .ref q3, .ref q4, .ref (f48 0), .ref (f60 0), .ref (f72 0), .int 0, .int 0, .int 0, .int 0, .int 0, .int 0, .int 0, .int 0, .int 0])), (q1, .inl (eC E 1, (16, .inl (fun _ => 0)))), (q2, .inl (eC E 1, (16, .inl (fun _ => 0)))), (q3, .inl (eC E 1, (16, .inl (fun _ => 0)))), (q4, .inl (eC E 1, (48, .inl (fun _ => 0)))), (f48 0, .inr (2, [.ref (f48 1), .int 0])), (f48 1, .inl (eC E 1, (6, .inl (fun _ => 0)))), (f60 0, .inr (2, [.ref (f60 1), .int 0])), (f60 1, .inl (eC E 1, (4, .inl (fun _ => 0)))), (f72 0, .inr (2, [.ref (f72 1), .int 0])), (f72 1, .inl (eC E 1, (4, .inl (fun _ => 0))))]) tyX3 tyX3_ok nmX3 rfl rfl (by decide) inX3 q275 rfl (tyX3_ok 12 (by decide)) (vp_nar_int _) rfl (Nat.le_of_ble_eq_true rfl) rfl dX3_init_100 ?_
  refine vi_aload dX3_init_103 rfl 0 rfl ?_
  refine vi_bipush (v := 15) dX3_init_104 rfl ?_
  refine vi_put (q := 0) (k := 13) (ws' := [(h0, .inr (3, [.int 1, .ref q1, .ref q2, .ref q3, .ref q4, .ref (f48 0), .ref (f60 0), .ref (f72 0), .int 0, .int 0, .int 0, .int 0, .int 0, .int 15, .int 0, .int 0, .int 0])), (q1, .inl (eC E 1, (16, .inl (fun _ => 0)))), (q2, .inl (eC E 1, (16, .inl (fun _ => 0)))), (q3, .inl (eC E 1, (16, .inl (fun _ => 0)))), (q4, .inl (eC E 1, (48, .inl (fun _ => 0)))), (f48 0, .inr (2, [.ref (f48 1), .int 0])), (f48 1, .inl (eC E 1, (6, .inl (fun _ => 0)))), (f60 0, .inr (2, [.ref (f60 1), .int 0])), (f60 1, .inl (eC E 1, (4, .inl (fun _ => 0)))), (f72 0, .inr (2, [.ref (f72 1), .int 0])), (f72 1, .inl (eC E 1, (4, .inl (fun _ => 0))))]) tyX3 tyX3_ok nmX3 rfl rfl (by decide) inX3 q277 rfl (tyX3_ok 13 (by decide)) (vp_nar_int _) rfl (Nat.le_of_ble_eq_true rfl) rfl dX3_init_106 ?_
  refine vi_aload dX3_init_109 rfl 0 rfl ?_
  refine vi_iconst (v := 0) dX3_init_110 rfl ?_
  refine vi_put (q := 0) (k := 14) (ws' := [(h0, .inr (3, [.int 1, .ref q1, .ref q2, .ref q3, .ref q4, .ref (f48 0), .ref (f60 0), .ref (f72 0), .int 0, .int 0, .int 0, .int 0, .int 0, .int 15, .int 0, .int 0, .int 0])), (q1, .inl (eC E 1, (16, .inl (fun _ => 0)))), (q2, .inl (eC E 1, (16, .inl (fun _ => 0)))), (q3, .inl (eC E 1, (16, .inl (fun _ => 0)))), (q4, .inl (eC E 1, (48, .inl (fun _ => 0)))), (f48 0, .inr (2, [.ref (f48 1), .int 0])), (f48 1, .inl (eC E 1, (6, .inl (fun _ => 0)))), (f60 0, .inr (2, [.ref (f60 1), .int 0])), (f60 1, .inl (eC E 1, (4, .inl (fun _ => 0)))), (f72 0, .inr (2, [.ref (f72 1), .int 0])), (f72 1, .inl (eC E 1, (4, .inl (fun _ => 0))))]) tyX3 tyX3_ok nmX3 rfl rfl (by decide) inX3 q278 rfl (tyX3_ok 14 (by decide)) (vp_nar_int _) rfl (Nat.le_of_ble_eq_true rfl) rfl dX3_init_111 ?_
  refine vi_aload dX3_init_114 rfl 0 rfl ?_
  refine vi_iconst (v := 0) dX3_init_115 rfl ?_
  refine vi_put (q := 0) (k := 15) (ws' := [(h0, .inr (3, [.int 1, .ref q1, .ref q2, .ref q3, .ref q4, .ref (f48 0), .ref (f60 0), .ref (f72 0), .int 0, .int 0, .int 0, .int 0, .int 0, .int 15, .int 0, .int 0, .int 0])), (q1, .inl (eC E 1, (16, .inl (fun _ => 0)))), (q2, .inl (eC E 1, (16, .inl (fun _ => 0)))), (q3, .inl (eC E 1, (16, .inl (fun _ => 0)))), (q4, .inl (eC E 1, (48, .inl (fun _ => 0)))), (f48 0, .inr (2, [.ref (f48 1), .int 0])), (f48 1, .inl (eC E 1, (6, .inl (fun _ => 0)))), (f60 0, .inr (2, [.ref (f60 1), .int 0])), (f60 1, .inl (eC E 1, (4, .inl (fun _ => 0)))), (f72 0, .inr (2, [.ref (f72 1), .int 0])), (f72 1, .inl (eC E 1, (4, .inl (fun _ => 0))))]) tyX3 tyX3_ok nmX3 rfl rfl (by decide) inX3 q279 rfl (tyX3_ok 15 (by decide)) (vp_nar_int _) rfl (Nat.le_of_ble_eq_true rfl) rfl dX3_init_116 ?_
  refine vi_aload dX3_init_119 rfl 0 rfl ?_
  refine vi_iconst (v := 0) dX3_init_120 rfl ?_
  refine vi_put (q := 0) (k := 16) (ws' := [(h0, .inr (3, [.int 1, .ref q1, .ref q2, .ref q3, .ref q4, .ref (f48 0), .ref (f60 0), .ref (f72 0), .int 0, .int 0, .int 0, .int 0, .int 0, .int 15, .int 0, .int 0, .int 0])), (q1, .inl (eC E 1, (16, .inl (fun _ => 0)))), (q2, .inl (eC E 1, (16, .inl (fun _ => 0)))), (q3, .inl (eC E 1, (16, .inl (fun _ => 0)))), (q4, .inl (eC E 1, (48, .inl (fun _ => 0)))), (f48 0, .inr (2, [.ref (f48 1), .int 0])), (f48 1, .inl (eC E 1, (6, .inl (fun _ => 0)))), (f60 0, .inr (2, [.ref (f60 1), .int 0])), (f60 1, .inl (eC E 1, (4, .inl (fun _ => 0)))), (f72 0, .inr (2, [.ref (f72 1), .int 0])), (f72 1, .inl (eC E 1, (4, .inl (fun _ => 0))))]) tyX3 tyX3_ok nmX3 rfl rfl (by decide) inX3 q280 rfl (tyX3_ok 16 (by decide)) rfl rfl (Nat.le_of_ble_eq_true rfl) rfl dX3_init_121 ?_
  exact vi_ret ⟨(fun j => [h0, q1, q2, q3, q4, (f48 0), (f48 1), (f60 0), (f60 1), (f72 0), (f72 1)].getD j 0), rfl, rfl⟩ (Nat.le_of_ble_eq_true rfl) (Nat.le_of_ble_eq_true rfl) dX3_init_124
def rm_X9_init : Room := { frames := 1, cells := 12, slots := 2636, locals := 20 }
theorem c_X9_init (l : Launch) (E : EnvT) : CI l E yX9_init cX9_init 1 rm_X9_init 12 2636 [] 9 [.null, .null, .null, .int 0, .null, .null, .int 0, .null, .null, .null, .int 0, .null, .null, .null, .null, .int 0, .int 0, .int 0, .int 0, .int 0, .int 0, .int 0, .int 0, .long 0] (fun h0 w => ∃ f, f 0 = h0 ∧ w = wMo E f) := by
  refine CI.ofVC (own := RX9) (by decide) rfl rfl (fun _ => Nat.le_of_ble_eq_true rfl) (fun h0 sz => ?_)
  show VC l E RX9 cX9_init 1 rm_X9_init (AA h0 sz) sz _ 12 2636 [(h0, .inr (9, [.null, .null, .null, .int 0, .null, .null, .int 0, .null, .null, .null, .int 0, .null, .null, .null, .null, .int 0, .int 0, .int 0, .int 0, .int 0, .int 0, .int 0, .int 0, .long 0]))] 0 0 0 [(0, .ref h0)] []
  refine vi_aload dX9_init_0 rfl 0 rfl ?_
  refine vi_obj q821 q91 q92 (Nat.le_of_ble_eq_true rfl) (Nat.le_of_ble_eq_true rfl) dX9_init_1 ?_
  refine vi_aload dX9_init_4 rfl 0 rfl ?_
  refine vi_sipush (v := 347) dX9_init_5 rfl ?_
  refine vi_newa (N' := 347) (atype := .int) (t0 := 1) q153 rfl rfl (fun _ h => by cases h) rfl (by decide) (by decide) (Nat.le_of_ble_eq_true rfl) (Nat.le_of_ble_eq_true rfl) (Nat.le_of_ble_eq_true rfl) dX9_init_8 (fun q1 => ?_)
  refine vi_putF (q := 0) (k := 0) (ws' := [(h0, .inr (9, [.ref q1, .null, .null, .int 0, .null, .null, .int 0, .null, .null, .null, .int 0, .null, .null, .null, .null, .int 0, .int 0, .int 0, .int 0, .int 0, .int 0, .int 0, .int 0, .long 0])), (q1, .inl (eC E 1, (347, .inl (fun _ => 0))))]) tyX9 tyX9_ok nmX9 rfl rfl (by decide) inX9 q822 rfl rfl (tyX9_ok 0 (by decide)) rfl rfl (Nat.le_of_ble_eq_true rfl) rfl dX9_init_10 ?_
  refine vi_aload dX9_init_13 rfl 0 rfl ?_
  refine vi_sipush (v := 347) dX9_init_14 rfl ?_
  refine vi_newa (N' := 347) (atype := .int) (t0 := 1) q153 rfl rfl (fun _ h => by cases h) rfl (by decide) (by decide) (Nat.le_of_ble_eq_true rfl) (Nat.le_of_ble_eq_true rfl) (Nat.le_of_ble_eq_true rfl) dX9_init_17 (fun q2 => ?_)
  refine vi_putF (q := 0) (k := 1) (ws' := [(h0, .inr (9, [.ref q1, .ref q2, .null, .int 0, .null, .null, .int 0, .null, .null, .null, .int 0, .null, .null, .null, .null, .int 0, .int 0, .int 0, .int 0, .int 0, .int 0, .int 0, .int 0, .long 0])), (q1, .inl (eC E 1, (347, .inl (fun _ => 0)))), (q2, .inl (eC E 1, (347, .inl (fun _ => 0))))]) tyX9 tyX9_ok nmX9 rfl rfl (by decide) inX9 q823 rfl rfl (tyX9_ok 1 (by decide)) rfl rfl (Nat.le_of_ble_eq_true rfl) rfl dX9_init_19 ?_
  refine vi_aload dX9_init_22 rfl 0 rfl ?_
  refine vi_sipush (v := 1735) dX9_init_23 rfl ?_
  refine vi_newa (N' := 1735) (atype := .int) (t0 := 1) q153 rfl rfl (fun _ h => by cases h) rfl (by decide) (by decide) (Nat.le_of_ble_eq_true rfl) (Nat.le_of_ble_eq_true rfl) (Nat.le_of_ble_eq_true rfl) dX9_init_26 (fun q3 => ?_)
  refine vi_putF (q := 0) (k := 2) (ws' := [(h0, .inr (9, [.ref q1, .ref q2, .ref q3, .int 0, .null, .null, .int 0, .null, .null, .null, .int 0, .null, .null, .null, .null, .int 0, .int 0, .int 0, .int 0, .int 0, .int 0, .int 0, .int 0, .long 0])), (q1, .inl (eC E 1, (347, .inl (fun _ => 0)))), (q2, .inl (eC E 1, (347, .inl (fun _ => 0)))), (q3, .inl (eC E 1, (1735, .inl (fun _ => 0))))]) tyX9 tyX9_ok nmX9 rfl rfl (by decide) inX9 q824 rfl rfl (tyX9_ok 2 (by decide)) rfl rfl (Nat.le_of_ble_eq_true rfl) rfl dX9_init_28 ?_
  refine vi_aload dX9_init_31 rfl 0 rfl ?_
  refine vi_iconst (v := 3) dX9_init_32 rfl ?_
  refine vi_newa (N' := 3) (atype := .int) (t0 := 1) q153 rfl rfl (fun _ h => by cases h) rfl (by decide) (by decide) (Nat.le_of_ble_eq_true rfl) (Nat.le_of_ble_eq_true rfl) (Nat.le_of_ble_eq_true rfl) dX9_init_33 (fun q4 => ?_)
  refine vi_putF (q := 0) (k := 4) (ws' := [(h0, .inr (9, [.ref q1, .ref q2, .ref q3, .int 0, .ref q4, .null, .int 0, .null, .null, .null, .int 0, .null, .null, .null, .null, .int 0, .int 0, .int 0, .int 0, .int 0, .int 0, .int 0, .int 0, .long 0])), (q1, .inl (eC E 1, (347, .inl (fun _ => 0)))), (q2, .inl (eC E 1, (347, .inl (fun _ => 0)))), (q3, .inl (eC E 1, (1735, .inl (fun _ => 0)))), (q4, .inl (eC E 1, (3, .inl (fun _ => 0))))]) tyX9 tyX9_ok nmX9 rfl rfl (by decide) inX9 q826 rfl rfl (tyX9_ok 4 (by decide)) rfl rfl (Nat.le_of_ble_eq_true rfl) rfl dX9_init_35 ?_
  refine vi_aload dX9_init_38 rfl 0 rfl ?_
  refine vi_bipush (v := 100) dX9_init_39 rfl ?_
  refine vi_newa (N' := 100) (atype := .int) (t0 := 1) q153 rfl rfl (fun _ h => by cases h) rfl (by decide) (by decide) (Nat.le_of_ble_eq_true rfl) (Nat.le_of_ble_eq_true rfl) (Nat.le_of_ble_eq_true rfl) dX9_init_41 (fun q5 => ?_)
  refine vi_putF (q := 0) (k := 5) (ws' := [(h0, .inr (9, [.ref q1, .ref q2, .ref q3, .int 0, .ref q4, .ref q5, .int 0, .null, .null, .null, .int 0, .null, .null, .null, .null, .int 0, .int 0, .int 0, .int 0, .int 0, .int 0, .int 0, .int 0, .long 0])), (q1, .inl (eC E 1, (347, .inl (fun _ => 0)))), (q2, .inl (eC E 1, (347, .inl (fun _ => 0)))), (q3, .inl (eC E 1, (1735, .inl (fun _ => 0)))), (q4, .inl (eC E 1, (3, .inl (fun _ => 0)))), (q5, .inl (eC E 1, (100, .inl (fun _ => 0))))]) tyX9 tyX9_ok nmX9 rfl rfl (by decide) inX9 q827 rfl rfl (tyX9_ok 5 (by decide)) rfl rfl (Nat.le_of_ble_eq_true rfl) rfl dX9_init_43 ?_
  refine vi_aload dX9_init_46 rfl 0 rfl ?_
  refine vi_bipush (v := 8) dX9_init_47 rfl ?_
  refine vi_newa (N' := 8) (atype := .int) (t0 := 1) q153 rfl rfl (fun _ h => by cases h) rfl (by decide) (by decide) (Nat.le_of_ble_eq_true rfl) (Nat.le_of_ble_eq_true rfl) (Nat.le_of_ble_eq_true rfl) dX9_init_49 (fun q6 => ?_)
  refine vi_putF (q := 0) (k := 7) (ws' := [(h0, .inr (9, [.ref q1, .ref q2, .ref q3, .int 0, .ref q4, .ref q5, .int 0, .ref q6, .null, .null, .int 0, .null, .null, .null, .null, .int 0, .int 0, .int 0, .int 0, .int 0, .int 0, .int 0, .int 0, .long 0])), (q1, .inl (eC E 1, (347, .inl (fun _ => 0)))), (q2, .inl (eC E 1, (347, .inl (fun _ => 0)))), (q3, .inl (eC E 1, (1735, .inl (fun _ => 0)))), (q4, .inl (eC E 1, (3, .inl (fun _ => 0)))), (q5, .inl (eC E 1, (100, .inl (fun _ => 0)))), (q6, .inl (eC E 1, (8, .inl (fun _ => 0))))]) tyX9 tyX9_ok nmX9 rfl rfl (by decide) inX9 q829 rfl rfl (tyX9_ok 7 (by decide)) rfl rfl (Nat.le_of_ble_eq_true rfl) rfl dX9_init_51 ?_
  refine vi_aload dX9_init_54 rfl 0 rfl ?_
  refine vi_bipush (v := 8) dX9_init_55 rfl ?_
  refine vi_newa (N' := 8) (atype := .int) (t0 := 1) q153 rfl rfl (fun _ h => by cases h) rfl (by decide) (by decide) (Nat.le_of_ble_eq_true rfl) (Nat.le_of_ble_eq_true rfl) (Nat.le_of_ble_eq_true rfl) dX9_init_57 (fun q7 => ?_)
  refine vi_putF (q := 0) (k := 8) (ws' := [(h0, .inr (9, [.ref q1, .ref q2, .ref q3, .int 0, .ref q4, .ref q5, .int 0, .ref q6, .ref q7, .null, .int 0, .null, .null, .null, .null, .int 0, .int 0, .int 0, .int 0, .int 0, .int 0, .int 0, .int 0, .long 0])), (q1, .inl (eC E 1, (347, .inl (fun _ => 0)))), (q2, .inl (eC E 1, (347, .inl (fun _ => 0)))), (q3, .inl (eC E 1, (1735, .inl (fun _ => 0)))), (q4, .inl (eC E 1, (3, .inl (fun _ => 0)))), (q5, .inl (eC E 1, (100, .inl (fun _ => 0)))), (q6, .inl (eC E 1, (8, .inl (fun _ => 0)))), (q7, .inl (eC E 1, (8, .inl (fun _ => 0))))]) tyX9 tyX9_ok nmX9 rfl rfl (by decide) inX9 q830 rfl rfl (tyX9_ok 8 (by decide)) rfl rfl (Nat.le_of_ble_eq_true rfl) rfl dX9_init_59 ?_
  refine vi_aload dX9_init_62 rfl 0 rfl ?_
  refine vi_bipush (v := 8) dX9_init_63 rfl ?_
  refine vi_newa (N' := 8) (atype := .int) (t0 := 1) q153 rfl rfl (fun _ h => by cases h) rfl (by decide) (by decide) (Nat.le_of_ble_eq_true rfl) (Nat.le_of_ble_eq_true rfl) (Nat.le_of_ble_eq_true rfl) dX9_init_65 (fun q8 => ?_)
  refine vi_putF (q := 0) (k := 9) (ws' := [(h0, .inr (9, [.ref q1, .ref q2, .ref q3, .int 0, .ref q4, .ref q5, .int 0, .ref q6, .ref q7, .ref q8, .int 0, .null, .null, .null, .null, .int 0, .int 0, .int 0, .int 0, .int 0, .int 0, .int 0, .int 0, .long 0])), (q1, .inl (eC E 1, (347, .inl (fun _ => 0)))), (q2, .inl (eC E 1, (347, .inl (fun _ => 0)))), (q3, .inl (eC E 1, (1735, .inl (fun _ => 0)))), (q4, .inl (eC E 1, (3, .inl (fun _ => 0)))), (q5, .inl (eC E 1, (100, .inl (fun _ => 0)))), (q6, .inl (eC E 1, (8, .inl (fun _ => 0)))), (q7, .inl (eC E 1, (8, .inl (fun _ => 0)))), (q8, .inl (eC E 1, (8, .inl (fun _ => 0))))]) tyX9 tyX9_ok nmX9 rfl rfl (by decide) inX9 q831 rfl rfl (tyX9_ok 9 (by decide)) rfl rfl (Nat.le_of_ble_eq_true rfl) rfl dX9_init_67 ?_
  refine vi_aload dX9_init_70 rfl 0 rfl ?_
  refine vi_bipush (v := 20) dX9_init_71 rfl ?_
  refine vi_newa (N' := 20) (atype := .int) (t0 := 1) q153 rfl rfl (fun _ h => by cases h) rfl (by decide) (by decide) (Nat.le_of_ble_eq_true rfl) (Nat.le_of_ble_eq_true rfl) (Nat.le_of_ble_eq_true rfl) dX9_init_73 (fun q9 => ?_)
  refine vi_putF (q := 0) (k := 11) (ws' := [(h0, .inr (9, [.ref q1, .ref q2, .ref q3, .int 0, .ref q4, .ref q5, .int 0, .ref q6, .ref q7, .ref q8, .int 0, .ref q9, .null, .null, .null, .int 0, .int 0, .int 0, .int 0, .int 0, .int 0, .int 0, .int 0, .long 0])), (q1, .inl (eC E 1, (347, .inl (fun _ => 0)))), (q2, .inl (eC E 1, (347, .inl (fun _ => 0)))), (q3, .inl (eC E 1, (1735, .inl (fun _ => 0)))), (q4, .inl (eC E 1, (3, .inl (fun _ => 0)))), (q5, .inl (eC E 1, (100, .inl (fun _ => 0)))), (q6, .inl (eC E 1, (8, .inl (fun _ => 0)))), (q7, .inl (eC E 1, (8, .inl (fun _ => 0)))), (q8, .inl (eC E 1, (8, .inl (fun _ => 0)))), (q9, .inl (eC E 1, (20, .inl (fun _ => 0))))]) tyX9 tyX9_ok nmX9 rfl rfl (by decide) inX9 q833 rfl rfl (tyX9_ok 11 (by decide)) rfl rfl (Nat.le_of_ble_eq_true rfl) rfl dX9_init_75 ?_
  refine vi_aload dX9_init_78 rfl 0 rfl ?_
  refine vi_bipush (v := 20) dX9_init_79 rfl ?_
  refine vi_newa (N' := 20) (atype := .int) (t0 := 1) q153 rfl rfl (fun _ h => by cases h) rfl (by decide) (by decide) (Nat.le_of_ble_eq_true rfl) (Nat.le_of_ble_eq_true rfl) (Nat.le_of_ble_eq_true rfl) dX9_init_81 (fun q10 => ?_)
  refine vi_putF (q := 0) (k := 12) (ws' := [(h0, .inr (9, [.ref q1, .ref q2, .ref q3, .int 0, .ref q4, .ref q5, .int 0, .ref q6, .ref q7, .ref q8, .int 0, .ref q9, .ref q10, .null, .null, .int 0, .int 0, .int 0, .int 0, .int 0, .int 0, .int 0, .int 0, .long 0])), (q1, .inl (eC E 1, (347, .inl (fun _ => 0)))), (q2, .inl (eC E 1, (347, .inl (fun _ => 0)))), (q3, .inl (eC E 1, (1735, .inl (fun _ => 0)))), (q4, .inl (eC E 1, (3, .inl (fun _ => 0)))), (q5, .inl (eC E 1, (100, .inl (fun _ => 0)))), (q6, .inl (eC E 1, (8, .inl (fun _ => 0)))), (q7, .inl (eC E 1, (8, .inl (fun _ => 0)))), (q8, .inl (eC E 1, (8, .inl (fun _ => 0)))), (q9, .inl (eC E 1, (20, .inl (fun _ => 0)))), (q10, .inl (eC E 1, (20, .inl (fun _ => 0))))]) tyX9 tyX9_ok nmX9 rfl rfl (by decide) inX9 q834 rfl rfl (tyX9_ok 12 (by decide)) rfl rfl (Nat.le_of_ble_eq_true rfl) rfl dX9_init_83 ?_
  refine vi_aload dX9_init_86 rfl 0 rfl ?_
  refine vi_bipush (v := 20) dX9_init_87 rfl ?_
  refine vi_newa (N' := 20) (atype := .boolean) (t0 := 2) q895 rfl rfl (fun _ h => by cases h) rfl (by decide) (by decide) (Nat.le_of_ble_eq_true rfl) (Nat.le_of_ble_eq_true rfl) (Nat.le_of_ble_eq_true rfl) dX9_init_89 (fun q11 => ?_)
  refine vi_putF (q := 0) (k := 13) (ws' := [(h0, .inr (9, [.ref q1, .ref q2, .ref q3, .int 0, .ref q4, .ref q5, .int 0, .ref q6, .ref q7, .ref q8, .int 0, .ref q9, .ref q10, .ref q11, .null, .int 0, .int 0, .int 0, .int 0, .int 0, .int 0, .int 0, .int 0, .long 0])), (q1, .inl (eC E 1, (347, .inl (fun _ => 0)))), (q2, .inl (eC E 1, (347, .inl (fun _ => 0)))), (q3, .inl (eC E 1, (1735, .inl (fun _ => 0)))), (q4, .inl (eC E 1, (3, .inl (fun _ => 0)))), (q5, .inl (eC E 1, (100, .inl (fun _ => 0)))), (q6, .inl (eC E 1, (8, .inl (fun _ => 0)))), (q7, .inl (eC E 1, (8, .inl (fun _ => 0)))), (q8, .inl (eC E 1, (8, .inl (fun _ => 0)))), (q9, .inl (eC E 1, (20, .inl (fun _ => 0)))), (q10, .inl (eC E 1, (20, .inl (fun _ => 0)))), (q11, .inl (eC E 2, (20, .inl (fun _ => 0))))]) tyX9 tyX9_ok nmX9 rfl rfl (by decide) inX9 q835 rfl rfl (tyX9_ok 13 (by decide)) rfl rfl (Nat.le_of_ble_eq_true rfl) rfl dX9_init_91 ?_
  refine vi_aload dX9_init_94 rfl 0 rfl ?_
  refine vi_bipush (v := 20) dX9_init_95 rfl ?_
  refine vi_newa (N' := 20) (atype := .int) (t0 := 1) q153 rfl rfl (fun _ h => by cases h) rfl (by decide) (by decide) (Nat.le_of_ble_eq_true rfl) (Nat.le_of_ble_eq_true rfl) (Nat.le_of_ble_eq_true rfl) dX9_init_97 (fun q12 => ?_)
  refine vi_putF (q := 0) (k := 14) (ws' := [(h0, .inr (9, [.ref q1, .ref q2, .ref q3, .int 0, .ref q4, .ref q5, .int 0, .ref q6, .ref q7, .ref q8, .int 0, .ref q9, .ref q10, .ref q11, .ref q12, .int 0, .int 0, .int 0, .int 0, .int 0, .int 0, .int 0, .int 0, .long 0])), (q1, .inl (eC E 1, (347, .inl (fun _ => 0)))), (q2, .inl (eC E 1, (347, .inl (fun _ => 0)))), (q3, .inl (eC E 1, (1735, .inl (fun _ => 0)))), (q4, .inl (eC E 1, (3, .inl (fun _ => 0)))), (q5, .inl (eC E 1, (100, .inl (fun _ => 0)))), (q6, .inl (eC E 1, (8, .inl (fun _ => 0)))), (q7, .inl (eC E 1, (8, .inl (fun _ => 0)))), (q8, .inl (eC E 1, (8, .inl (fun _ => 0)))), (q9, .inl (eC E 1, (20, .inl (fun _ => 0)))), (q10, .inl (eC E 1, (20, .inl (fun _ => 0)))), (q11, .inl (eC E 2, (20, .inl (fun _ => 0)))), (q12, .inl (eC E 1, (20, .inl (fun _ => 0))))]) tyX9 tyX9_ok nmX9 rfl rfl (by decide) inX9 q836 rfl rfl (tyX9_ok 14 (by decide)) rfl rfl (Nat.le_of_ble_eq_true rfl) rfl dX9_init_99 ?_
  refine vi_aload dX9_init_102 rfl 0 rfl ?_
  refine vi_get (q := 0) (k := 0) rfl rfl (by decide) inX9 q822 rfl dX9_init_103 ?_
  refine vi_iconst (v := 0) dX9_init_106 rfl ?_
  refine vi_iconst (v := 1) dX9_init_107 rfl ?_
  refine vi_iast (q := 1) (n := 347) (i := 0) (ws' := [(h0, .inr (9, [.ref q1, .ref q2, .ref q3, .int 0, .ref q4, .ref q5, .int 0, .ref q6, .ref q7, .ref q8, .int 0, .ref q9, .ref q10, .ref q11, .ref q12, .int 0, .int 0, .int 0, .int 0, .int 0, .int 0, .int 0, .int 0, .long 0])), (q1, .inl (eC E 1, (347, .inl (upd (fun _ => 0) 0 1)))), (q2, .inl (eC E 1, (347, .inl (fun _ => 0)))), (q3, .inl (eC E 1, (1735, .inl (fun _ => 0)))), (q4, .inl (eC E 1, (3, .inl (fun _ => 0)))), (q5, .inl (eC E 1, (100, .inl (fun _ => 0)))), (q6, .inl (eC E 1, (8, .inl (fun _ => 0)))), (q7, .inl (eC E 1, (8, .inl (fun _ => 0)))), (q8, .inl (eC E 1, (8, .inl (fun _ => 0)))), (q9, .inl (eC E 1, (20, .inl (fun _ => 0)))), (q10, .inl (eC E 1, (20, .inl (fun _ => 0)))), (q11, .inl (eC E 2, (20, .inl (fun _ => 0)))), (q12, .inl (eC E 1, (20, .inl (fun _ => 0))))]) rfl (by decide) rfl dX9_init_108 ?_
  refine vi_aload dX9_init_109 rfl 0 rfl ?_
  refine vi_get (q := 0) (k := 0) rfl rfl (by decide) inX9 q822 rfl dX9_init_110 ?_
  refine vi_bipush (v := 27) dX9_init_113 rfl ?_
  refine vi_sipush (v := (-10001)) dX9_init_115 rfl ?_
  refine vi_iast (q := 1) (n := 347) (i := 27) (ws' := [(h0, .inr (9, [.ref q1, .ref q2, .ref q3, .int 0, .ref q4, .ref q5, .int 0, .ref q6, .ref q7, .ref q8, .int 0, .ref q9, .ref q10, .ref q11, .ref q12, .int 0, .int 0, .int 0, .int 0, .int 0, .int 0, .int 0, .int 0, .long 0])), (q1, .inl (eC E 1, (347, .inl (upd (upd (fun _ => 0) 0 1) 27 (-10001))))), (q2, .inl (eC E 1, (347, .inl (fun _ => 0)))), (q3, .inl (eC E 1, (1735, .inl (fun _ => 0)))), (q4, .inl (eC E 1, (3, .inl (fun _ => 0)))), (q5, .inl (eC E 1, (100, .inl (fun _ => 0)))), (q6, .inl (eC E 1, (8, .inl (fun _ => 0)))), (q7, .inl (eC E 1, (8, .inl (fun _ => 0)))), (q8, .inl (eC E 1, (8, .inl (fun _ => 0)))), (q9, .inl (eC E 1, (20, .inl (fun _ => 0)))), (q10, .inl (eC E 1, (20, .inl (fun _ => 0)))), (q11, .inl (eC E 2, (20, .inl (fun _ => 0)))), (q12, .inl (eC E 1, (20, .inl (fun _ => 0))))]) rfl (by decide) rfl dX9_init_118 ?_
  refine vi_aload dX9_init_119 rfl 0 rfl ?_
  refine vi_get (q := 0) (k := 0) rfl rfl (by decide) inX9 q822 rfl dX9_init_120 ?_
  refine vi_bipush (v := 6) dX9_init_123 rfl ?_
  refine vi_bipush (v := 15) dX9_init_125 rfl ?_
  refine vi_iast (q := 1) (n := 347) (i := 6) (ws' := [(h0, .inr (9, [.ref q1, .ref q2, .ref q3, .int 0, .ref q4, .ref q5, .int 0, .ref q6, .ref q7, .ref q8, .int 0, .ref q9, .ref q10, .ref q11, .ref q12, .int 0, .int 0, .int 0, .int 0, .int 0, .int 0, .int 0, .int 0, .long 0])), (q1, .inl (eC E 1, (347, .inl (upd (upd (upd (fun _ => 0) 0 1) 27 (-10001)) 6 15)))), (q2, .inl (eC E 1, (347, .inl (fun _ => 0)))), (q3, .inl (eC E 1, (1735, .inl (fun _ => 0)))), (q4, .inl (eC E 1, (3, .inl (fun _ => 0)))), (q5, .inl (eC E 1, (100, .inl (fun _ => 0)))), (q6, .inl (eC E 1, (8, .inl (fun _ => 0)))), (q7, .inl (eC E 1, (8, .inl (fun _ => 0)))), (q8, .inl (eC E 1, (8, .inl (fun _ => 0)))), (q9, .inl (eC E 1, (20, .inl (fun _ => 0)))), (q10, .inl (eC E 1, (20, .inl (fun _ => 0)))), (q11, .inl (eC E 2, (20, .inl (fun _ => 0)))), (q12, .inl (eC E 1, (20, .inl (fun _ => 0))))]) rfl (by decide) rfl dX9_init_127 ?_
  exact vi_ret ⟨(fun j => [h0, q1, q2, q3, q4, q5, q6, q7, q8, q9, q10, q11, q12].getD j 0), rfl, rfl⟩ (Nat.le_of_ble_eq_true rfl) (Nat.le_of_ble_eq_true rfl) dX9_init_128
