theorem q90 : Cond.methodLink "BenchOrders" 1 objectInit ∈ tb := tbm 90 (by decide +kernel) rfl
theorem q93 : Cond.classLink "BenchOrders" 19 "BenchOrders$Text" ∈ tb := tbm 93 (by decide +kernel) rfl
theorem q94 : Cond.instantiable "BenchOrders$Text" 2 ∈ tb := tbm 94 (by decide +kernel) rfl
theorem q96 : Cond.instanceMethod yX4_init ∈ tb := tbm 96 (by decide +kernel) rfl
theorem q97 : Cond.code yX4_init prog_6_method_1_code 1 none ∈ tb := tbm 97 (by decide +kernel) rfl
theorem q109 : Cond.classLink "BenchOrders" 26 "BenchOrders$Tree" ∈ tb := tbm 109 (by decide +kernel) rfl
theorem q110 : Cond.instantiable "BenchOrders$Tree" 4 ∈ tb := tbm 110 (by decide +kernel) rfl
theorem q111 : Cond.methodLink "BenchOrders" 28 yX5_init ∈ tb := tbm 111 (by decide +kernel) rfl
theorem q112 : Cond.instanceMethod yX5_init ∈ tb := tbm 112 (by decide +kernel) rfl
theorem q113 : Cond.code yX5_init prog_7_method_1_code 2 none ∈ tb := tbm 113 (by decide +kernel) rfl
theorem q114 : Cond.methodLink "BenchOrders$Tree" 3 objectInit ∈ tb := tbm 114 (by decide +kernel) rfl
theorem q115 : Cond.classLink "BenchOrders$Tree" 9 "BenchOrders$Node" ∈ tb := tbm 115 (by decide +kernel) rfl
theorem q117 : Cond.instantiable "BenchOrders$Node" 7 ∈ tb := tbm 117 (by decide +kernel) rfl
theorem q119 : Cond.instanceMethod yX1_init ∈ tb := tbm 119 (by decide +kernel) rfl
theorem q120 : Cond.code yX1_init prog_3_method_1_code 1 none ∈ tb := tbm 120 (by decide +kernel) rfl
theorem q169 : Cond.classLink "BenchOrders" 33 "BenchOrders$Unit" ∈ tb := tbm 169 (by decide +kernel) rfl
theorem q170 : Cond.instantiable "BenchOrders$Unit" 9 ∈ tb := tbm 170 (by decide +kernel) rfl
theorem q172 : Cond.instanceMethod yX6_init ∈ tb := tbm 172 (by decide +kernel) rfl
theorem q173 : Cond.code yX6_init prog_8_method_1_code 1 none ∈ tb := tbm 173 (by decide +kernel) rfl
theorem q231 : Cond.classLink "BenchOrders" 40 "BenchOrders$State" ∈ tb := tbm 231 (by decide +kernel) rfl
theorem q232 : Cond.instantiable "BenchOrders$State" 17 ∈ tb := tbm 232 (by decide +kernel) rfl
theorem q234 : Cond.instanceMethod yX3_init ∈ tb := tbm 234 (by decide +kernel) rfl
theorem q235 : Cond.code yX3_init prog_5_method_1_code 1 none ∈ tb := tbm 235 (by decide +kernel) rfl
theorem q316 : Cond.classLink "BenchOrders" 47 "BenchOrders$History" ∈ tb := tbm 316 (by decide +kernel) rfl
theorem q317 : Cond.instantiable "BenchOrders$History" 2 ∈ tb := tbm 317 (by decide +kernel) rfl
theorem q318 : Cond.methodLink "BenchOrders" 49 yX0_init ∈ tb := tbm 318 (by decide +kernel) rfl
theorem q319 : Cond.instanceMethod yX0_init ∈ tb := tbm 319 (by decide +kernel) rfl
theorem q320 : Cond.code yX0_init prog_2_method_1_code 2 none ∈ tb := tbm 320 (by decide +kernel) rfl
theorem q321 : Cond.methodLink "BenchOrders$History" 3 objectInit ∈ tb := tbm 321 (by decide +kernel) rfl
theorem q322 : Cond.classLink "BenchOrders$History" 9 "BenchOrders$State" ∈ tb := tbm 322 (by decide +kernel) rfl
theorem nq95 : Cond.methodLinkNest "BenchOrders" 21 yX4_init "BenchOrders" ∈ lw_tbl := List.mem_of_getElem? (i := 95) (by decide +kernel)
theorem nq118 : Cond.methodLinkNest "BenchOrders$Tree" 28 yX1_init "BenchOrders" ∈ lw_tbl := List.mem_of_getElem? (i := 118) (by decide +kernel)
theorem nq171 : Cond.methodLinkNest "BenchOrders" 35 yX6_init "BenchOrders" ∈ lw_tbl := List.mem_of_getElem? (i := 171) (by decide +kernel)
theorem nq233 : Cond.methodLinkNest "BenchOrders" 42 yX3_init "BenchOrders" ∈ lw_tbl := List.mem_of_getElem? (i := 233) (by decide +kernel)
theorem nq324 : Cond.methodLinkNest "BenchOrders$History" 21 yX3_init "BenchOrders" ∈ lw_tbl := List.mem_of_getElem? (i := 324) (by decide +kernel)
section CRows2
variable {l : Launch} {E : EnvT} {own : String} {cc : ByteArray} {nL : Nat} {R : Room} {A : Nat → Prop} {sz : Nat} {post : va_W → Prop} {mc ms : Nat} {ws ws' : va_W} {cells slots pc : Nat} {lv : List (Nat × Value)} {st : List Value}
theorem vi_cs {cells' slots' : Nat} (h1 : cells = cells') (h2 : slots = slots') (k : VC l E own cc nL R A sz post mc ms ws cells' slots' pc lv st) : VC l E own cc nL R A sz post mc ms ws cells slots pc lv st := by subst h1; subst h2; exact k
theorem vi_sub {lv' : List (Nat × Value)} (ks : List Nat) (h : lv_pick lv ks = lv') (k : VC l E own cc nL R A sz post mc ms ws cells slots pc lv' st) : VC l E own cc nL R A sz post mc ms ws cells slots pc lv st := by
  intro p e s m args below meth c H locs ls F hsz hA hP hD hS hl
  exact k p e s m args below meth c H locs ls F hsz hA hP hD hS (lv_sub hl ks h)
end CRows2
def wTr (E : EnvT) (n : Nat) (f : Nat → Nat) (ns : Nat → Nat → Nat) (g : Nat → Option Nat) : va_W := [(f 0, .inr (5, [.ref (f 1), .ref (f 2), .int 1, .int 1])), (f 1, .inl (eC E 3, (16, .inr (.inr (.inr (.inr g)))))), (f 2, .inl (eC E 1, (16, .inl (fun _ => 0))))] ++ (List.range n).flatMap (fun j => wNd E (ns j))
def wHi (E : EnvT) (n : Nat) (f : Nat → Nat) (hs : Nat → Nat → Nat) (g : Nat → Option Nat) : va_W := [(f 0, .inr (0, [.ref (f 1), .int 0])), (f 1, .inl (eC E 4, (5, .inr (.inr (.inr (.inr g))))))] ++ (List.range n).flatMap (fun j => wSt E (hs j))
theorem fm_len {W : Nat → va_W} {c : Nat} (h : ∀ j, (W j).length = c) (n : Nat) : ((List.range n).flatMap W).length = c * n := by
  induction n with
  | zero => rfl
  | succ n ih => rw [List.range_succ, List.flatMap_append, List.length_append, ih]; simp [h, Nat.mul_succ]
theorem fm_snoc {W W' : Nat → va_W} {n : Nat} (h : ∀ j, j < n → W' j = W j) : (List.range n).flatMap W ++ W' n = (List.range (n + 1)).flatMap W' := by
  rw [List.range_succ, List.flatMap_append]
  have e : (List.range n).flatMap W = (List.range n).flatMap W' := by
    have : ∀ (L : List Nat), (∀ j ∈ L, j < n) → L.flatMap W = L.flatMap W' := by
      intro L
      induction L with
      | nil => intro _; rfl
      | cons a L ih => intro hL; rw [List.flatMap_cons, List.flatMap_cons, ih (fun j hj => hL j (List.mem_cons_of_mem _ hj)), h a (hL a List.mem_cons_self)]
    exact this _ (fun j hj => List.mem_range.mp hj)
  rw [e]
  simp
def rm_X5_init : Room := { frames := 2, cells := 34, slots := 272, locals := 60 }
def rm_X0_init : Room := { frames := 3, cells := 56, slots := 670, locals := 100 }
def pTr (E : EnvT) (h0 : Nat) (w : va_W) : Prop := ∃ (f : Nat → Nat) (ns : Nat → Nat → Nat) (g : Nat → Option Nat), f 0 = h0 ∧ (∀ j, j < 16 → g j = some (ns j 0)) ∧ w = wTr E 16 f ns g
def pHi (E : EnvT) (h0 : Nat) (w : va_W) : Prop := ∃ (f : Nat → Nat) (hs : Nat → Nat → Nat) (g : Nat → Option Nat), f 0 = h0 ∧ (∀ j, j < 5 → g j = some (hs j 0)) ∧ w = wHi E 5 f hs g

theorem loop5 (l : Launch) (E : EnvT) (sz : Nat) (f : Nat → Nat) : ∀ (k i : Nat) (ns : Nat → Nat → Nat) (g : Nat → Option Nat), i + k = 16 → (∀ j, j < i → g j = some (ns j 0)) → VC l E RX5 cX5_init 2 rm_X5_init (AA (f 0) sz) sz (pTr E (f 0)) 34 272 (wTr E i f ns g) (2 + 2 * i) (32 + 15 * i) 33 [(1, .int (nI i)), (0, .ref (f 0))] [] := by
  intro k
  induction k with
  | zero =>
    intro i ns g hi hg
    have e : i = 16 := by omega
    subst e
    refine vi_iload dX5_init_33 rfl 0 rfl ?_
    refine vi_bipush (v := 16) dX5_init_34 rfl ?_
    refine vi_geT (tgt := 58) (by decide) dX5_init_36 (by decide) ?_
    exact vi_ret ⟨f, ns, g, rfl, hg, rfl⟩ (Nat.le_of_ble_eq_true rfl) (Nat.le_of_ble_eq_true rfl) dX5_init_58
  | succ k ih =>
    intro i ns g hi hg
    have hlt : i < 16 := by omega
    refine vi_iload dX5_init_33 rfl 0 rfl ?_
    refine vi_bipush (v := 16) dX5_init_34 rfl ?_
    refine vi_geF (tgt := 58) (show ¬ (16 : Int32) ≤ nI i from nI_ge (b := 16) hlt (by decide)) dX5_init_36 (by decide) ?_
    refine vi_aload dX5_init_39 rfl 1 rfl ?_
    refine vi_get (q := 0) (k := 0) (NN := 4) (T := TX5) (C := RX5) (ci := 5) rfl rfl (by decide) inX5 q154 rfl dX5_init_40 ?_
    refine vi_iload dX5_init_43 rfl 0 rfl ?_
    refine vi_new (ci := 1) (fs := [.int 0, .int 0, .int 0, .int 0, .int 0, .int 0, .null]) (T := TX1) (NN := 7) tyX1 tyX1_ok q115 q117 q73 inX1 rfl (fun j hj => by rcases (show j = 0 ∨ j = 1 ∨ j = 2 ∨ j = 3 ∨ j = 4 ∨ j = 5 ∨ j = 6 by omega) with rfl | rfl | rfl | rfl | rfl | rfl | rfl <;> rfl) (show _ ≤ 34 by omega) (show _ ≤ 272 by omega) dX5_init_44 (fun r => ?_)
    refine vi_dup dX5_init_47 rfl ?_
    refine vi_initN (wr := wTr E i f ns g) (As := []) (rest := [.ref r, .int (nI i), .ref (f 1)]) (c_X1_init l E) q119 q73 q120 (by decide +kernel) rfl nq118 ⟨rfl, rfl⟩ ⟨Nat.le_of_ble_eq_true rfl, Nat.le_of_ble_eq_true rfl⟩ ⟨show _ ≤ 34 by omega, show _ ≤ 272 by omega⟩ rfl rfl (Nat.le_of_ble_eq_true rfl) dX5_init_48 (fun w hw => ?_)
    obtain ⟨h, rfl, rfl⟩ := hw
    have hix : (nI i).toNatClampNeg = i := nI_clamp (by omega)
    have hlen : (wTr E i f ns g).length = 3 + 2 * i := by
      show (List.length (_ ++ _)) = _
      rw [List.length_append, fm_len (c := 2) (fun j => rfl)]
      rfl
    refine vi_astq (q := 1) (qk := 3 + 2 * i) (ci := 1) (n := 16) (t0 := 3) (r := (RX1, TX1, 7)) (f := g) (ws' := wTr E (i + 1) f (fun j => if j = i then h else ns j) (va_up g (nI i).toNatClampNeg (some (h 0)))) rfl rfl (by rw [List.getElem?_append_right (by rw [hlen]; exact Nat.le_refl _), hlen, Nat.sub_self]; rfl) rfl (show inR (nI i) 16 = true from decide_eq_true (nI_in hlt (by decide))) ?_ dX5_init_51 ?_
    · have e := fm_snoc (W := fun j => wNd E (ns j)) (W' := fun j => wNd E (if j = i then h else ns j)) (n := i) (fun j hj => by simp [Nat.ne_of_lt hj])
      simp only [if_true] at e
      show _ = _ ++ _
      rw [← e]
      rfl
    refine vi_iinc (v := nI (i + 1)) (lv' := [(1, .int (nI (i + 1))), (0, .ref (f 0))]) dX5_init_52 0 rfl (nI_1 i) (Nat.le_of_ble_eq_true rfl) rfl ?_
    refine vi_goto (tgt := 33) dX5_init_55 (by decide) ?_
    refine vi_cs (cells' := 2 + 2 * (i + 1)) (slots' := 32 + 15 * (i + 1)) (by omega) (by omega) ?_
    refine ih (i + 1) _ _ (by omega) (fun j hj => ?_)
    rw [hix]
    by_cases hj2 : j = i
    · subst hj2; simp [va_up]
    · simp only [va_up, if_neg hj2]; exact hg j (by omega)

theorem loop0 (l : Launch) (E : EnvT) (sz : Nat) (f : Nat → Nat) : ∀ (k i : Nat) (ns : Nat → Nat → Nat) (g : Nat → Option Nat), i + k = 5 → (∀ j, j < i → g j = some (ns j 0)) → VC l E RX0 cX0_init 2 rm_X0_init (AA (f 0) sz) sz (pHi E (f 0)) 56 670 (wHi E i f ns g) (1 + 11 * i) (5 + 133 * i) 19 [(1, .int (nI i)), (0, .ref (f 0))] [] := by
  intro k
  induction k with
  | zero =>
    intro i ns g hi hg
    have e : i = 5 := by omega
    subst e
    refine vi_iload dX0_init_19 rfl 0 rfl ?_
    refine vi_iconst (v := 5) dX0_init_20 rfl ?_
    refine vi_geT (tgt := 43) (by decide) dX0_init_21 (by decide) ?_
    exact vi_ret ⟨f, ns, g, rfl, hg, rfl⟩ (Nat.le_of_ble_eq_true rfl) (Nat.le_of_ble_eq_true rfl) dX0_init_43
  | succ k ih =>
    intro i ns g hi hg
    have hlt : i < 5 := by omega
    refine vi_iload dX0_init_19 rfl 0 rfl ?_
    refine vi_iconst (v := 5) dX0_init_20 rfl ?_
    refine vi_geF (tgt := 43) (show ¬ (5 : Int32) ≤ nI i from nI_ge (b := 5) hlt (by decide)) dX0_init_21 (by decide) ?_
    refine vi_aload dX0_init_24 rfl 1 rfl ?_
    refine vi_get (q := 0) (k := 0) (NN := 2) (T := TX0) (C := RX0) (ci := 0) rfl rfl (by decide) inX0 q325 rfl dX0_init_25 ?_
    refine vi_iload dX0_init_28 rfl 0 rfl ?_
    refine vi_new (ci := 3) (fs := [.int 0, .null, .null, .null, .null, .null, .null, .null, .int 0, .int 0, .int 0, .int 0, .int 0, .int 0, .int 0, .int 0, .int 0]) (T := TX3) (NN := 17) tyX3 tyX3_ok q322 q232 q76 inX3 rfl (fun j hj => by rcases (show j = 0 ∨ j = 1 ∨ j = 2 ∨ j = 3 ∨ j = 4 ∨ j = 5 ∨ j = 6 ∨ j = 7 ∨ j = 8 ∨ j = 9 ∨ j = 10 ∨ j = 11 ∨ j = 12 ∨ j = 13 ∨ j = 14 ∨ j = 15 ∨ j = 16 by omega) with rfl | rfl | rfl | rfl | rfl | rfl | rfl | rfl | rfl | rfl | rfl | rfl | rfl | rfl | rfl | rfl | rfl <;> rfl) (show _ ≤ 56 by omega) (show _ ≤ 670 by omega) dX0_init_29 (fun r => ?_)
    refine vi_dup dX0_init_32 rfl ?_
    refine vi_initN (wr := wHi E i f ns g) (As := []) (rest := [.ref r, .int (nI i), .ref (f 1)]) (c_X3_init l E) q234 q76 q235 (by decide +kernel) rfl nq324 ⟨rfl, rfl⟩ ⟨Nat.le_of_ble_eq_true rfl, Nat.le_of_ble_eq_true rfl⟩ ⟨show _ ≤ 56 by omega, show _ ≤ 670 by omega⟩ rfl rfl (Nat.le_of_ble_eq_true rfl) dX0_init_33 (fun w hw => ?_)
    obtain ⟨h, rfl, rfl⟩ := hw
    have hix : (nI i).toNatClampNeg = i := nI_clamp (by omega)
    have hlen : (wHi E i f ns g).length = 2 + 11 * i := by
      show (List.length (_ ++ _)) = _
      rw [List.length_append, fm_len (c := 11) (fun j => rfl)]
      rfl
    refine vi_astq (q := 1) (qk := 2 + 11 * i) (ci := 3) (n := 5) (t0 := 4) (r := (RX3, TX3, 17)) (f := g) (ws' := wHi E (i + 1) f (fun j => if j = i then h else ns j) (va_up g (nI i).toNatClampNeg (some (h 0)))) rfl rfl (by rw [List.getElem?_append_right (by rw [hlen]; exact Nat.le_refl _), hlen, Nat.sub_self]; rfl) rfl (show inR (nI i) 5 = true from decide_eq_true (nI_in hlt (by decide))) ?_ dX0_init_36 ?_
    · have e := fm_snoc (W := fun j => wSt E (ns j)) (W' := fun j => wSt E (if j = i then h else ns j)) (n := i) (fun j hj => by simp [Nat.ne_of_lt hj])
      simp only [if_true] at e
      show _ = _ ++ _
      rw [← e]
      rfl
    refine vi_iinc (v := nI (i + 1)) (lv' := [(1, .int (nI (i + 1))), (0, .ref (f 0))]) dX0_init_37 0 rfl (nI_1 i) (Nat.le_of_ble_eq_true rfl) rfl ?_
    refine vi_goto (tgt := 19) dX0_init_40 (by decide) ?_
    refine vi_cs (cells' := 1 + 11 * (i + 1)) (slots' := 5 + 133 * (i + 1)) (by omega) (by omega) ?_
    refine ih (i + 1) _ _ (by omega) (fun j hj => ?_)
    rw [hix]
    by_cases hj2 : j = i
    · subst hj2; simp [va_up]
    · simp only [va_up, if_neg hj2]; exact hg j (by omega)

theorem c_X5_init (l : Launch) (E : EnvT) : CI l E yX5_init cX5_init 2 rm_X5_init 34 272 [] 5 [.null, .null, .int 0, .int 0] (pTr E) := by
  refine CI.ofVC (own := RX5) (by decide) rfl rfl (fun _ => Nat.le_of_ble_eq_true rfl) (fun h0 sz => ?_)
  show VC l E RX5 cX5_init 2 rm_X5_init (AA h0 sz) sz (pTr E h0) 34 272 [(h0, .inr (5, [.null, .null, .int 0, .int 0]))] 0 0 0 [(0, .ref h0)] []
  refine vi_aload dX5_init_0 rfl 0 rfl ?_
  refine vi_obj q114 q91 q92 (Nat.le_of_ble_eq_true rfl) (Nat.le_of_ble_eq_true rfl) dX5_init_1 ?_
  refine vi_aload dX5_init_4 rfl 0 rfl ?_
  refine vi_bipush (v := 16) dX5_init_5 rfl ?_
  refine vi_newq (N' := 16) (t0 := 3) (C := "BenchOrders$Node") q115 (fun _ s h => h.2.2.1) rfl (by decide) (by decide) (Nat.le_of_ble_eq_true rfl) (Nat.le_of_ble_eq_true rfl) (Nat.le_of_ble_eq_true rfl) dX5_init_7 (fun q1 => ?_)
  refine vi_putF (q := 0) (k := 0) (ws' := [(h0, .inr (5, [.ref q1, .null, .int 0, .int 0])), (q1, .inl (eC E 3, (16, .inr (.inr (.inr (.inr (fun _ => none)))))))]) tyX5 tyX5_ok nmX5 rfl rfl (by decide) inX5 q154 rfl rfl (tyX5_ok 0 (by decide)) rfl rfl (Nat.le_of_ble_eq_true rfl) rfl dX5_init_10 ?_
  refine vi_aload dX5_init_13 rfl 0 rfl ?_
  refine vi_bipush (v := 16) dX5_init_14 rfl ?_
  refine vi_newa (N' := 16) (atype := .int) (t0 := 1) q153 rfl rfl (fun _ h => by cases h) rfl (by decide) (by decide) (Nat.le_of_ble_eq_true rfl) (Nat.le_of_ble_eq_true rfl) (Nat.le_of_ble_eq_true rfl) dX5_init_16 (fun q2 => ?_)
  refine vi_putF (q := 0) (k := 1) (ws' := [(h0, .inr (5, [.ref q1, .ref q2, .int 0, .int 0])), (q1, .inl (eC E 3, (16, .inr (.inr (.inr (.inr (fun _ => none))))))), (q2, .inl (eC E 1, (16, .inl (fun _ => 0))))]) tyX5 tyX5_ok nmX5 rfl rfl (by decide) inX5 q156 rfl rfl (tyX5_ok 1 (by decide)) rfl rfl (Nat.le_of_ble_eq_true rfl) rfl dX5_init_18 ?_
  refine vi_aload dX5_init_21 rfl 0 rfl ?_
  refine vi_iconst (v := 1) dX5_init_22 rfl ?_
  refine vi_put (q := 0) (k := 2) (ws' := [(h0, .inr (5, [.ref q1, .ref q2, .int 1, .int 0])), (q1, .inl (eC E 3, (16, .inr (.inr (.inr (.inr (fun _ => none))))))), (q2, .inl (eC E 1, (16, .inl (fun _ => 0))))]) tyX5 tyX5_ok nmX5 rfl rfl (by decide) inX5 q157 rfl (tyX5_ok 2 (by decide)) (vp_nar_int _) rfl (Nat.le_of_ble_eq_true rfl) rfl dX5_init_23 ?_
  refine vi_aload dX5_init_26 rfl 0 rfl ?_
  refine vi_iconst (v := 1) dX5_init_27 rfl ?_
  refine vi_put (q := 0) (k := 3) (ws' := [(h0, .inr (5, [.ref q1, .ref q2, .int 1, .int 1])), (q1, .inl (eC E 3, (16, .inr (.inr (.inr (.inr (fun _ => none))))))), (q2, .inl (eC E 1, (16, .inl (fun _ => 0))))]) tyX5 tyX5_ok nmX5 rfl rfl (by decide) inX5 q158 rfl (tyX5_ok 3 (by decide)) (vp_nar_int _) rfl (Nat.le_of_ble_eq_true rfl) rfl dX5_init_28 ?_
  refine vi_iconst (v := 0) dX5_init_31 rfl ?_
  refine vi_istore (lv' := [(1, .int 0), (0, .ref h0)]) dX5_init_32 rfl (Nat.le_of_ble_eq_true rfl) rfl ?_
  exact loop5 l E sz (fun j => [h0, q1, q2].getD j 0) 16 0 (fun _ _ => 0) (fun _ => none) rfl (fun j hj => absurd hj (Nat.not_lt_zero j))
theorem c_X0_init (l : Launch) (E : EnvT) : CI l E yX0_init cX0_init 2 rm_X0_init 56 670 [] 0 [.null, .int 0] (pHi E) := by
  refine CI.ofVC (own := RX0) (by decide) rfl rfl (fun _ => Nat.le_of_ble_eq_true rfl) (fun h0 sz => ?_)
  show VC l E RX0 cX0_init 2 rm_X0_init (AA h0 sz) sz (pHi E h0) 56 670 [(h0, .inr (0, [.null, .int 0]))] 0 0 0 [(0, .ref h0)] []
  refine vi_aload dX0_init_0 rfl 0 rfl ?_
  refine vi_obj q321 q91 q92 (Nat.le_of_ble_eq_true rfl) (Nat.le_of_ble_eq_true rfl) dX0_init_1 ?_
  refine vi_aload dX0_init_4 rfl 0 rfl ?_
  refine vi_iconst (v := 5) dX0_init_5 rfl ?_
  refine vi_newq (N' := 5) (t0 := 4) (C := "BenchOrders$State") q322 (fun _ s h => h.2.2.2) rfl (by decide) (by decide) (Nat.le_of_ble_eq_true rfl) (Nat.le_of_ble_eq_true rfl) (Nat.le_of_ble_eq_true rfl) dX0_init_6 (fun q1 => ?_)
  refine vi_putF (q := 0) (k := 0) (ws' := [(h0, .inr (0, [.ref q1, .int 0])), (q1, .inl (eC E 4, (5, .inr (.inr (.inr (.inr (fun _ => none)))))))]) tyX0 tyX0_ok nmX0 rfl rfl (by decide) inX0 q325 rfl rfl (tyX0_ok 0 (by decide)) rfl rfl (Nat.le_of_ble_eq_true rfl) rfl dX0_init_9 ?_
  refine vi_aload dX0_init_12 rfl 0 rfl ?_
  refine vi_iconst (v := 0) dX0_init_13 rfl ?_
  refine vi_put (q := 0) (k := 1) (ws' := [(h0, .inr (0, [.ref q1, .int 0])), (q1, .inl (eC E 4, (5, .inr (.inr (.inr (.inr (fun _ => none)))))))]) tyX0 tyX0_ok nmX0 rfl rfl (by decide) inX0 q326 rfl (tyX0_ok 1 (by decide)) (vp_nar_int _) rfl (Nat.le_of_ble_eq_true rfl) rfl dX0_init_14 ?_
  refine vi_iconst (v := 0) dX0_init_17 rfl ?_
  refine vi_istore (lv' := [(1, .int 0), (0, .ref h0)]) dX0_init_18 rfl (Nat.le_of_ble_eq_true rfl) rfl ?_
  exact loop0 l E sz (fun j => [h0, q1].getD j 0) 5 0 (fun _ _ => 0) (fun _ => none) rfl (fun j hj => absurd hj (Nat.not_lt_zero j))
def rm_X8_init : Room := { frames := 4, cells := 110, slots := 1214, locals := 150 }
def wBo (E : EnvT) (h0 : Nat) (ft fr : Nat → Nat) (ns : Nat → Nat → Nat) (g5 : Nat → Option Nat) (fu fs fh : Nat → Nat) (hs : Nat → Nat → Nat) (g0 : Nat → Option Nat) : va_W := [(h0, .inr (8, [.ref (ft 0), .ref (fr 0), .ref (fu 0), .ref (fs 0), .ref (fh 0), .int 0, .int 0, .int 0]))] ++ wTx E ft ++ wTr E 16 fr ns g5 ++ wUn E fu ++ wSt E fs ++ wHi E 5 fh hs g0
def pBo (E : EnvT) (h0 : Nat) (w : va_W) : Prop := ∃ (ft fr : Nat → Nat) (ns : Nat → Nat → Nat) (g5 : Nat → Option Nat) (fu fs fh : Nat → Nat) (hs : Nat → Nat → Nat) (g0 : Nat → Option Nat), (∀ j, j < 16 → g5 j = some (ns j 0)) ∧ (∀ j, j < 5 → g0 j = some (hs j 0)) ∧ w = wBo E h0 ft fr ns g5 fu fs fh hs g0
theorem c_X8_init (l : Launch) (E : EnvT) : CI l E yX8_init cX8_init 1 rm_X8_init 110 1214 [] 8 [.null, .null, .null, .null, .null, .int 0, .int 0, .int 0] (pBo E) := by
  refine CI.ofVC (own := RX8) (by decide) rfl rfl (fun _ => Nat.le_of_ble_eq_true rfl) (fun h0 sz => ?_)
  show VC l E RX8 cX8_init 1 rm_X8_init (AA h0 sz) sz (pBo E h0) 110 1214 [(h0, .inr (8, [.null, .null, .null, .null, .null, .int 0, .int 0, .int 0]))] 0 0 0 [(0, .ref h0)] []
  refine vi_aload dX8_init_0 rfl 0 rfl ?_
  refine vi_obj q90 q91 q92 (Nat.le_of_ble_eq_true rfl) (Nat.le_of_ble_eq_true rfl) dX8_init_1 ?_
  refine vi_aload dX8_init_4 rfl 0 rfl ?_
  refine vi_iconst (v := 0) dX8_init_5 rfl ?_
  refine vi_put (q := 0) (k := 5) (ws' := [(h0, .inr (8, [.null, .null, .null, .null, .null, .int 0, .int 0, .int 0]))]) tyX8 tyX8_ok nmX8 rfl rfl (by decide) inX8 q338 rfl (tyX8_ok 5 (by decide)) (vp_nar_int _) rfl (Nat.le_of_ble_eq_true rfl) rfl dX8_init_6 ?_
  refine vi_aload dX8_init_9 rfl 0 rfl ?_
  refine vi_iconst (v := 0) dX8_init_10 rfl ?_
  refine vi_put (q := 0) (k := 6) (ws' := [(h0, .inr (8, [.null, .null, .null, .null, .null, .int 0, .int 0, .int 0]))]) tyX8 tyX8_ok nmX8 rfl rfl (by decide) inX8 q339 rfl (tyX8_ok 6 (by decide)) (vp_nar_int _) rfl (Nat.le_of_ble_eq_true rfl) rfl dX8_init_11 ?_
  refine vi_aload dX8_init_14 rfl 0 rfl ?_
  refine vi_iconst (v := 0) dX8_init_15 rfl ?_
  refine vi_put (q := 0) (k := 7) (ws' := [(h0, .inr (8, [.null, .null, .null, .null, .null, .int 0, .int 0, .int 0]))]) tyX8 tyX8_ok nmX8 rfl rfl (by decide) inX8 q340 rfl (tyX8_ok 7 (by decide)) (vp_nar_int _) rfl (Nat.le_of_ble_eq_true rfl) rfl dX8_init_16 ?_
  refine vi_aload dX8_init_19 rfl 0 rfl ?_
  refine vi_new (ci := 4) (fs := [.null, .int 0]) (T := TX4) (NN := 2) tyX4 tyX4_ok q93 q94 q71 inX4 rfl (fun j hj => by rcases (show j = 0 ∨ j = 1 by omega) with rfl | rfl <;> rfl) (Nat.le_of_ble_eq_true rfl) (Nat.le_of_ble_eq_true rfl) dX8_init_20 (fun r20 => ?_)
  refine vi_dup dX8_init_23 rfl ?_
  refine vi_initN (As := []) (rest := [.ref r20, .ref h0]) (c_X4_init l E) q96 q71 q97 (by decide +kernel) rfl nq95 ⟨rfl, rfl⟩ (by exact ⟨Nat.le_of_ble_eq_true rfl, Nat.le_of_ble_eq_true rfl⟩) (by exact ⟨Nat.le_of_ble_eq_true rfl, Nat.le_of_ble_eq_true rfl⟩) rfl rfl (by exact Nat.le_of_ble_eq_true rfl) dX8_init_24 (fun w hw => ?_)
  obtain ⟨ft, rfl, rfl⟩ := hw
  refine vi_putF (q := 0) (k := 0) (ws' := [(h0, .inr (8, [.ref (ft 0), .null, .null, .null, .null, .int 0, .int 0, .int 0]))] ++ wTx E ft) tyX8 tyX8_ok nmX8 rfl rfl (by decide) inX8 q333 rfl rfl (tyX8_ok 0 (by decide)) rfl rfl (Nat.le_of_ble_eq_true rfl) rfl dX8_init_27 ?_
  refine vi_aload dX8_init_30 rfl 0 rfl ?_
  refine vi_new (ci := 5) (fs := [.null, .null, .int 0, .int 0]) (T := TX5) (NN := 4) tyX5 tyX5_ok q109 q110 q72 inX5 rfl (fun j hj => by rcases (show j = 0 ∨ j = 1 ∨ j = 2 ∨ j = 3 by omega) with rfl | rfl | rfl | rfl <;> rfl) (Nat.le_of_ble_eq_true rfl) (Nat.le_of_ble_eq_true rfl) dX8_init_31 (fun r31 => ?_)
  refine vi_dup dX8_init_34 rfl ?_
  refine vi_init (As := []) (rest := [.ref r31, .ref h0]) (c_X5_init l E) q112 q72 q113 (by decide +kernel) rfl q111 ⟨rfl, rfl⟩ (by exact ⟨Nat.le_of_ble_eq_true rfl, Nat.le_of_ble_eq_true rfl⟩) (by exact ⟨Nat.le_of_ble_eq_true rfl, Nat.le_of_ble_eq_true rfl⟩) rfl rfl (by exact Nat.le_of_ble_eq_true rfl) dX8_init_35 (fun w hw => ?_)
  obtain ⟨fr, ns, g5, rfl, hg5, rfl⟩ := hw
  refine vi_putF (q := 0) (k := 1) (ws' := [(h0, .inr (8, [.ref (ft 0), .ref (fr 0), .null, .null, .null, .int 0, .int 0, .int 0]))] ++ wTx E ft ++ wTr E 16 fr ns g5) tyX8 tyX8_ok nmX8 rfl rfl (by decide) inX8 q334 rfl rfl (tyX8_ok 1 (by decide)) rfl rfl (Nat.le_of_ble_eq_true rfl) rfl dX8_init_38 ?_
  refine vi_aload dX8_init_41 rfl 0 rfl ?_
  refine vi_new (ci := 6) (fs := [.null, .int 0, .int 0, .int 0, .int 0, .int 0, .int 0, .int 0, .int 0]) (T := TX6) (NN := 9) tyX6 tyX6_ok q169 q170 q74 inX6 rfl (fun j hj => by rcases (show j = 0 ∨ j = 1 ∨ j = 2 ∨ j = 3 ∨ j = 4 ∨ j = 5 ∨ j = 6 ∨ j = 7 ∨ j = 8 by omega) with rfl | rfl | rfl | rfl | rfl | rfl | rfl | rfl | rfl <;> rfl) (Nat.le_of_ble_eq_true rfl) (Nat.le_of_ble_eq_true rfl) dX8_init_42 (fun r42 => ?_)
  refine vi_dup dX8_init_45 rfl ?_
  refine vi_initN (As := []) (rest := [.ref r42, .ref h0]) (c_X6_init l E) q172 q74 q173 (by decide +kernel) rfl nq171 ⟨rfl, rfl⟩ (by exact ⟨Nat.le_of_ble_eq_true rfl, Nat.le_of_ble_eq_true rfl⟩) (by exact ⟨Nat.le_of_ble_eq_true rfl, Nat.le_of_ble_eq_true rfl⟩) rfl rfl (by exact Nat.le_of_ble_eq_true rfl) dX8_init_46 (fun w hw => ?_)
  obtain ⟨fu, rfl, rfl⟩ := hw
  refine vi_putF (q := 0) (k := 2) (ws' := [(h0, .inr (8, [.ref (ft 0), .ref (fr 0), .ref (fu 0), .null, .null, .int 0, .int 0, .int 0]))] ++ wTx E ft ++ wTr E 16 fr ns g5 ++ wUn E fu) tyX8 tyX8_ok nmX8 rfl rfl (by decide) inX8 q335 rfl rfl (tyX8_ok 2 (by decide)) rfl rfl (Nat.le_of_ble_eq_true rfl) rfl dX8_init_49 ?_
  refine vi_aload dX8_init_52 rfl 0 rfl ?_
  refine vi_new (ci := 3) (fs := [.int 0, .null, .null, .null, .null, .null, .null, .null, .int 0, .int 0, .int 0, .int 0, .int 0, .int 0, .int 0, .int 0, .int 0]) (T := TX3) (NN := 17) tyX3 tyX3_ok q231 q232 q76 inX3 rfl (fun j hj => by rcases (show j = 0 ∨ j = 1 ∨ j = 2 ∨ j = 3 ∨ j = 4 ∨ j = 5 ∨ j = 6 ∨ j = 7 ∨ j = 8 ∨ j = 9 ∨ j = 10 ∨ j = 11 ∨ j = 12 ∨ j = 13 ∨ j = 14 ∨ j = 15 ∨ j = 16 by omega) with rfl | rfl | rfl | rfl | rfl | rfl | rfl | rfl | rfl | rfl | rfl | rfl | rfl | rfl | rfl | rfl | rfl <;> rfl) (Nat.le_of_ble_eq_true rfl) (Nat.le_of_ble_eq_true rfl) dX8_init_53 (fun r53 => ?_)
  refine vi_dup dX8_init_56 rfl ?_
  refine vi_initN (As := []) (rest := [.ref r53, .ref h0]) (c_X3_init l E) q234 q76 q235 (by decide +kernel) rfl nq233 ⟨rfl, rfl⟩ (by exact ⟨Nat.le_of_ble_eq_true rfl, Nat.le_of_ble_eq_true rfl⟩) (by exact ⟨Nat.le_of_ble_eq_true rfl, Nat.le_of_ble_eq_true rfl⟩) rfl rfl (by exact Nat.le_of_ble_eq_true rfl) dX8_init_57 (fun w hw => ?_)
  obtain ⟨fs, rfl, rfl⟩ := hw
  refine vi_putF (q := 0) (k := 3) (ws' := [(h0, .inr (8, [.ref (ft 0), .ref (fr 0), .ref (fu 0), .ref (fs 0), .null, .int 0, .int 0, .int 0]))] ++ wTx E ft ++ wTr E 16 fr ns g5 ++ wUn E fu ++ wSt E fs) tyX8 tyX8_ok nmX8 rfl rfl (by decide) inX8 q336 rfl rfl (tyX8_ok 3 (by decide)) rfl rfl (Nat.le_of_ble_eq_true rfl) rfl dX8_init_60 ?_
  refine vi_aload dX8_init_63 rfl 0 rfl ?_
  refine vi_new (ci := 0) (fs := [.null, .int 0]) (T := TX0) (NN := 2) tyX0 tyX0_ok q316 q317 q79 inX0 rfl (fun j hj => by rcases (show j = 0 ∨ j = 1 by omega) with rfl | rfl <;> rfl) (Nat.le_of_ble_eq_true rfl) (Nat.le_of_ble_eq_true rfl) dX8_init_64 (fun r64 => ?_)
  refine vi_dup dX8_init_67 rfl ?_
  refine vi_init (As := []) (rest := [.ref r64, .ref h0]) (c_X0_init l E) q319 q79 q320 (by decide +kernel) rfl q318 ⟨rfl, rfl⟩ (by exact ⟨Nat.le_of_ble_eq_true rfl, Nat.le_of_ble_eq_true rfl⟩) (by exact ⟨Nat.le_of_ble_eq_true rfl, Nat.le_of_ble_eq_true rfl⟩) rfl rfl (by exact Nat.le_of_ble_eq_true rfl) dX8_init_68 (fun w hw => ?_)
  obtain ⟨fh, hs, g0, rfl, hg0, rfl⟩ := hw
  refine vi_putF (q := 0) (k := 4) (ws' := [(h0, .inr (8, [.ref (ft 0), .ref (fr 0), .ref (fu 0), .ref (fs 0), .ref (fh 0), .int 0, .int 0, .int 0]))] ++ wTx E ft ++ wTr E 16 fr ns g5 ++ wUn E fu ++ wSt E fs ++ wHi E 5 fh hs g0) tyX8 tyX8_ok nmX8 rfl rfl (by decide) inX8 q337 rfl rfl (tyX8_ok 4 (by decide)) rfl rfl (Nat.le_of_ble_eq_true rfl) rfl dX8_init_71 ?_
  exact vi_ret ⟨ft, fr, ns, g5, fu, fs, fh, hs, g0, hg5, hg0, rfl⟩ (Nat.le_of_ble_eq_true rfl) (Nat.le_of_ble_eq_true rfl) dX8_init_74
