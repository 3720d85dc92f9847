theorem q81 : Cond.initialized "java/lang/String" ∈ tb := tbm 81 (by decide +kernel) rfl
theorem q83 : Cond.initialized "jdk/internal/util/Preconditions" ∈ tb := tbm 83 (by decide +kernel) rfl
theorem q85 : Cond.classLink "BenchOrdersLaw" 7 "BenchOrders" ∈ tb := tbm 85 (by decide +kernel) rfl
theorem q86 : Cond.instantiable "BenchOrders" 8 ∈ tb := tbm 86 (by decide +kernel) rfl
theorem q87 : Cond.methodLink "BenchOrdersLaw" 9 yX8_init ∈ tb := tbm 87 (by decide +kernel) rfl
theorem q88 : Cond.instanceMethod yX8_init ∈ tb := tbm 88 (by decide +kernel) rfl
theorem q89 : Cond.code yX8_init prog_1_method_1_code 1 none ∈ tb := tbm 89 (by decide +kernel) rfl
theorem q816 : Cond.classLink "BenchOrdersLaw" 10 "BenchOrdersModel" ∈ tb := tbm 816 (by decide +kernel) rfl
theorem q817 : Cond.instantiable "BenchOrdersModel" 24 ∈ tb := tbm 817 (by decide +kernel) rfl
theorem q818 : Cond.methodLink "BenchOrdersLaw" 12 yX9_init ∈ tb := tbm 818 (by decide +kernel) rfl
theorem q819 : Cond.instanceMethod yX9_init ∈ tb := tbm 819 (by decide +kernel) rfl
theorem q820 : Cond.code yX9_init prog_11_method_1_code 1 none ∈ tb := tbm 820 (by decide +kernel) rfl
/-- the memory behind the two constructors -/
def m_init : Mem := fun k j => if k = 112 then upd (upd (upd (fun _ => 0) 0 1) 27 (-10001)) 6 15 j else if k = 55 then nI (56 + 11 * j) else if kd k = 3 then (if j = 0 then 1 else if j = 13 then 15 else 0) else if kd k = 1 then (if j = 0 then (-10001) else 0) else if kd k = 5 then 1 else 0
def adF (h0 : Nat) (ft fr : Nat → Nat) (ns : Nat → Nat → Nat) (fu fs fh : Nat → Nat) (hs : Nat → Nat → Nat) (fm : Nat → Nat) (k : Nat) : Nat :=
  if k < 1 then h0 else if k < 3 then ft (k - 1) else if k < 6 then fr (k - 3) else if k < 38 then ns ((k - 6) / 2) ((k - 6) % 2) else if k < 43 then fu (k - 38) else if k < 54 then fs (k - 43) else if k < 56 then fh (k - 54) else if k < 111 then hs ((k - 56) / 11) ((k - 56) % 11) else fm (k - 111)
theorem P_cell {D : va_G} {cl : List vw_C} {ws : va_W} {H : Heap} {i a n : Nat} {c : ClassId} {f g : Nat → Option Nat} (h : va_P D cl ws H) (he : ws[i]? = some (a, .inl (c, (n, .inr (.inr (.inr (.inr f))))))) (hfg : ∀ j, j < n → f j = g j) : va_P D cl (ws.set i (a, .inl (c, (n, .inr (.inr (.inr (.inr g))))))) H := by
  have hl := (List.getElem?_eq_some_iff.mp he).1
  intro k q hk
  by_cases hki : k = i
  · subst hki
    rw [List.getElem?_set_self hl] at hk
    cases hk
    have h1 : H[a]? = some (vp_cell c (n, .inr (.inr (.inr (.inr f))))) := h k _ he
    show H[a]? = some (vp_cell c (n, .inr (.inr (.inr (.inr g)))))
    rw [h1, vp_cell_q, vp_cell_q]
    congr 1
    unfold arrV
    congr 1
    congr 1
    funext j
    show va_rf (f j.val) = va_rf (g j.val)
    rw [hfg j.val j.isLt]
  · rw [List.getElem?_set_ne (Ne.symm hki)] at hk
    exact h k q hk

theorem W_mono {p : Program} {l : Launch} {e : Env} {R : Room} {s : State} {m : MethodId} {args : Array Value} {below : List Frame} {meth : Method} {c : Code} {H : Heap} {locs : List Loc} {cells slots : Nat} {Q Q' : State → Prop} {g : JFrame} (h : W p l e R s m args below meth c H locs cells slots Q g) (hq : ∀ t, Q t → Q' t) : W p l e R s m args below meth c H locs cells slots Q' g := fun T hT X => by
  obtain ⟨t, a, b⟩ := h T hT X
  exact ⟨t, a, hq t b⟩
set_option maxRecDepth 20000 in
theorem world_ok (E : EnvT) (H : Heap) (h0 : Nat) (ft fr : Nat → Nat) (ns : Nat → Nat → Nat) (g5 : Nat → Option Nat) (fu fs fh : Nat → Nat) (hs : Nat → Nat → Nat) (g0 : Nat → Option Nat) (fm : Nat → Nat) (hE : E.1 = adF h0 ft fr ns fu fs fh hs fm) (h5 : ∀ j, j < 16 → g5 j = some (ns j 0)) (hh : ∀ j, j < 5 → g0 j = some (hs j 0)) (hP : va_P (eD E) vwCl (wBo E h0 ft fr ns g5 fu fs fh hs g0 ++ wMo E fm) H) : va_P (eD E) vwCl (Wd E m_init) H := by
  have hN : ∀ j, j < 16 → g5 j = some (eAd E (6 + 2 * j)) := by
    intro j hj
    rw [h5 j hj]
    show _ = some (E.1 (6 + 2 * j))
    rw [hE]
    unfold adF
    rw [if_neg (by omega), if_neg (by omega), if_neg (by omega), if_pos (by omega), show (6 + 2 * j - 6) / 2 = j by omega, show (6 + 2 * j - 6) % 2 = 0 by omega]
  have hS : ∀ j, j < 5 → g0 j = some (eAd E (ix (m_init 55 j))) := by
    intro j hj
    rw [hh j hj]
    have e1 : ix (m_init 55 j) = 56 + 11 * j := by
      show (nI (56 + 11 * j)).toNatClampNeg = _
      exact nI_clamp (by omega)
    rw [e1]
    show _ = some (E.1 (56 + 11 * j))
    rw [hE]
    unfold adF
    rw [if_neg (by omega), if_neg (by omega), if_neg (by omega), if_neg (by omega), if_neg (by omega), if_neg (by omega), if_neg (by omega), if_pos (by omega), show (56 + 11 * j - 56) / 11 = j by omega, show (56 + 11 * j - 56) % 11 = 0 by omega]
  have h1 := P_cell (i := 4) hP rfl hN
  have h2 := P_cell (i := 55) h1 rfl hS
  obtain ⟨ad, D, cy, B, aK, aV⟩ := E
  cases hE
  exact h2

set_option maxHeartbeats 4000000 in
set_option maxRecDepth 100000 in
theorem start_env {s : State} {b L : Nat} {xs : Nat → Int32} (hts : ∀ w ∈ lw_tbl, w.before #[Value.ref b] s = true) (hgv : (Jvm.Cond.and given_1 narrow_1).before #[Value.ref b] s = true) : ∃ (D : va_G) (cy : Nat → ClassId) (aK aV : Nat → Nat), ∀ (ad : Nat → Nat), EC (ad, D, cy, s.heap.size, aK, aV) s ∧ (EOk (ad, D, cy, s.heap.size, aK, aV) → EK (ad, D, cy, s.heap.size, aK, aV) s) := by
  have htb : ∀ w ∈ tb, w.before #[Value.ref b] s = true := fun w h => hts w (List.mem_filter.mp h).1
  obtain ⟨c0, iS0, hKn0⟩ := u_known (C := RX0) (T := TX0) (N := 2) (n := 2) htb inX0 (htb _ q317)
  obtain ⟨c1, iS1, hKn1⟩ := u_known (C := RX1) (T := TX1) (N := 7) (n := 7) htb inX1 (htb _ q117)
  obtain ⟨c2, iS2, hKn2⟩ := u_known (C := RX2) (T := TX2) (N := 2) (n := 2) htb inX2 (htb _ q238)
  obtain ⟨c3, iS3, hKn3⟩ := u_known (C := RX3) (T := TX3) (N := 17) (n := 17) htb inX3 (htb _ q232)
  obtain ⟨c4, iS4, hKn4⟩ := u_known (C := RX4) (T := TX4) (N := 2) (n := 2) htb inX4 (htb _ q94)
  obtain ⟨c5, iS5, hKn5⟩ := u_known (C := RX5) (T := TX5) (N := 4) (n := 4) htb inX5 (htb _ q110)
  obtain ⟨c6, iS6, hKn6⟩ := u_known (C := RX6) (T := TX6) (N := 9) (n := 9) htb inX6 (htb _ q170)
  obtain ⟨c7, iS7, hKn7⟩ := u_known (C := RX7) (T := TX7) (N := 4) (n := 4) htb inX7 (htb _ q176)
  obtain ⟨c8, iS8, hKn8⟩ := u_known (C := RX8) (T := TX8) (N := 8) (n := 8) htb inX8 (htb _ q86)
  obtain ⟨c9, iS9, hKn9⟩ := u_known (C := RX9) (T := TX9) (N := 24) (n := 24) htb inX9 (htb _ q817)
  obtain ⟨dC, dI, hKc⟩ : ∃ (dC : Nat → ClassId) (dI : Nat → Nat → Nat), ∀ (k : Nat) (q : vw_C), vwCl[k]? = some q → u_Kn s q.1 q.2.1 q.2.2 (dC k) (dI k) := by
    refine ⟨fun k => if k = 0 then c0 else if k = 1 then c1 else if k = 2 then c2 else if k = 3 then c3 else if k = 4 then c4 else if k = 5 then c5 else if k = 6 then c6 else if k = 7 then c7 else if k = 8 then c8 else c9, fun k => if k = 0 then iS0 else if k = 1 then iS1 else if k = 2 then iS2 else if k = 3 then iS3 else if k = 4 then iS4 else if k = 5 then iS5 else if k = 6 then iS6 else if k = 7 then iS7 else if k = 8 then iS8 else iS9, ?_⟩
    intro k q hq
    match k, hq with
    | 0, hq => cases hq; exact hKn0
    | 1, hq => cases hq; exact hKn1
    | 2, hq => cases hq; exact hKn2
    | 3, hq => cases hq; exact hKn3
    | 4, hq => cases hq; exact hKn4
    | 5, hq => cases hq; exact hKn5
    | 6, hq => cases hq; exact hKn6
    | 7, hq => cases hq; exact hKn7
    | 8, hq => cases hq; exact hKn8
    | 9, hq => cases hq; exact hKn9
    | k + 10, hq => simp [vwCl] at hq
  obtain ⟨cB, kB, pB, b1, b2, b3⟩ := Cond.arrayClass_spec (htb (.arrayClass .byte) q108)
  obtain ⟨cI, kI, pI, i1, i2, i3⟩ := Cond.arrayClass_spec (htb (.arrayClass .int) q153)
  obtain ⟨cZ, kZ, pZ, z1, z2, z3⟩ := Cond.arrayClass_spec (htb (.arrayClass .boolean) q895)
  have aoN := hts (.arrayOver (.object "BenchOrders$Node")) (List.mem_of_getElem? (i := 116) (by decide +kernel))
  have aoS := hts (.arrayOver (.object "BenchOrders$State")) (List.mem_of_getElem? (i := 323) (by decide +kernel))
  obtain ⟨pN, cN, kN, n1, n2, n3, n4, n5⟩ := Cond.arrayOver_spec aoN
  obtain ⟨pS, cS, kS, s1, s2, s3, s4, s5⟩ := Cond.arrayOver_spec aoS
  have hs := flat_of_before _ hgv
  have hA : ∀ a : Nat, a < s.heap.size → ¬ (fun q : Nat => s.heap.size ≤ q) a := fun a h => Nat.not_le.mpr h
  obtain ⟨aK, aV, hSt, hSr⟩ := vk_Sof (args := #[Value.ref b]) (s := s) (N := 9) (tm := fun i => Term.string "BenchOrders$Unit" (skI.getD i 0)) (len := strN) (byt := strB) (A := fun q : Nat => s.heap.size ≤ q) (by decide)
    (fun i hi => hs _ ((by decide +kernel : ∀ i, i < 9 → (Cond.exactly (Term.string "BenchOrders$Unit" (skI.getD i 0)) "java/lang/String") ∈ flatC (Jvm.Cond.and given_1 narrow_1)) i hi))
    (fun i hi => hs _ ((by decide +kernel : ∀ i, i < 9 → (Cond.eq (.field (Term.string "BenchOrders$Unit" (skI.getD i 0)) "java/lang/String" "coder" "B") (.int 0)) ∈ flatC (Jvm.Cond.and given_1 narrow_1)) i hi))
    (fun i hi => hs _ ((by decide +kernel : ∀ i, i < 9 → (Cond.arrayOf (.field (Term.string "BenchOrders$Unit" (skI.getD i 0)) "java/lang/String" "value" "[B") .byte) ∈ flatC (Jvm.Cond.and given_1 narrow_1)) i hi))
    (fun i hi => hs _ ((by decide +kernel : ∀ i, i < 9 → (Cond.eq (.length (.field (Term.string "BenchOrders$Unit" (skI.getD i 0)) "java/lang/String" "value" "[B")) (.int (Int32.ofNat (strN.getD i 0)))) ∈ flatC (Jvm.Cond.and given_1 narrow_1)) i hi))
    (fun i hi j hj => hs _ ((by decide +kernel : ∀ i, i < 9 → ∀ j, j < strN.getD i 0 → (Cond.eq (.elem (.field (Term.string "BenchOrders$Unit" (skI.getD i 0)) "java/lang/String" "value" "[B") (.int (Int32.ofNat j))) (.int ((strB.getD i []).getD j 0))) ∈ flatC (Jvm.Cond.and given_1 narrow_1)) i hi j hj))
    (fun i j hi hj hij => by
      rcases (by decide +kernel : ∀ i, i < 9 → ∀ j, j < 9 → i ≠ j → (Cond.not (Cond.eq (Term.string "BenchOrders$Unit" (skI.getD i 0)) (Term.string "BenchOrders$Unit" (skI.getD j 0)))) ∈ flatC (Jvm.Cond.and given_1 narrow_1) ∨ (Cond.not (Cond.eq (Term.string "BenchOrders$Unit" (skI.getD j 0)) (Term.string "BenchOrders$Unit" (skI.getD i 0)))) ∈ flatC (Jvm.Cond.and given_1 narrow_1)) i hi j hj hij with h | h
      · exact Or.inl (hs _ h)
      · exact Or.inr (hs _ h)) hA
  have hStr : ∀ i : Nat, i < 9 → Cond.stringRef "BenchOrders$Unit" (skI.getD i 0) (skT.getD i "") ∈ lw_tbl := by decide +kernel
  refine ⟨(dC, dI), fun k => if k = 0 then cB else if k = 1 then cI else if k = 2 then cZ else if k = 3 then cN else cS, aK, aV, fun ad => ?_⟩
  have hK : va_K (dC, dI) vwCl [(cB, .byte), (cI, .int), (cZ, .boolean), (cN, .object "BenchOrders$Node"), (cS, .object "BenchOrders$State")] s := by
    refine ⟨hKc, fun k q hq => ?_⟩
    match k, hq with
    | 0, hq => cases hq; exact ⟨fun n z => ⟨(fun k h => by cases h), kB, b2, pB, b3⟩, b1⟩
    | 1, hq => cases hq; exact ⟨fun n z => ⟨(fun k h => by cases h), kI, i2, pI, i3⟩, i1⟩
    | 2, hq => cases hq; exact ⟨fun n z => ⟨(fun k h => by cases h), kZ, z2, pZ, z3⟩, z1⟩
    | 3, hq => cases hq; exact ⟨fun n z => ⟨(fun k h => by cases h), kN, n3, pN, n4⟩, kN, pN, n3, n4, n1, n5⟩
    | 4, hq => cases hq; exact ⟨fun n z => ⟨(fun k h => by cases h), kS, s3, pS, s4⟩, kS, pS, s3, s4, s1, s5⟩
    | k + 5, hq => simp at hq
  have hNest : ∀ w ∈ lw_tbl, isNest w = true → va_Nw w s := by
    intro w hw hn
    have h := hts w hw
    cases w <;> first | exact va_Nw.of rfl h | (simp [isNest] at hn)
  refine ⟨⟨hK, hNest, va_AO.of aoN, va_AO.of aoS⟩, fun hO => ⟨hK, hNest, hO, hSt, fun i hi => vk_R.of (hts _ (hStr i hi)) (hSr i hi), ?_, ?_⟩⟩
  · exact va_Zof (hts _ (List.mem_of_getElem? (i := 546) (by decide +kernel))) (htb _ q81) (va_eqt (hs _ (by decide +kernel))) hA
  · exact va_Zqof (hts _ (List.mem_of_getElem? (i := 563) (by decide +kernel))) (htb _ q83) (hs _ (by decide +kernel)) hA

set_option maxRecDepth 20000 in
theorem adr_ok (D : va_G) (cy : Nat → ClassId) (B : Nat) (aK aV : Nat → Nat) (h0 : Nat) (ft fr : Nat → Nat) (ns : Nat → Nat → Nat) (g5 : Nat → Option Nat) (fu fs fh : Nat → Nat) (hs : Nat → Nat → Nat) (g0 : Nat → Option Nat) (fm : Nat → Nat) : ∀ k : Nat, k < 124 → ∃ x, (wBo ((fun _ => 0, D, cy, B, aK, aV) : EnvT) h0 ft fr ns g5 fu fs fh hs g0 ++ wMo ((fun _ => 0, D, cy, B, aK, aV) : EnvT) fm)[k]? = some (eAd ((adF h0 ft fr ns fu fs fh hs fm, D, cy, B, aK, aV) : EnvT) k, x) := by
  have e : (wBo ((fun _ => 0, D, cy, B, aK, aV) : EnvT) h0 ft fr ns g5 fu fs fh hs g0 ++ wMo ((fun _ => 0, D, cy, B, aK, aV) : EnvT) fm).map (fun q => q.1) = (List.range 124).map (adF h0 ft fr ns fu fs fh hs fm) := rfl
  intro k hk
  have h1 : ((wBo ((fun _ => 0, D, cy, B, aK, aV) : EnvT) h0 ft fr ns g5 fu fs fh hs g0 ++ wMo ((fun _ => 0, D, cy, B, aK, aV) : EnvT) fm).map (fun q => q.1))[k]? = some (adF h0 ft fr ns fu fs fh hs fm k) := by
    rw [e, List.getElem?_map, List.getElem?_range hk]
    rfl
  rw [List.getElem?_map] at h1
  cases h2 : (wBo ((fun _ => 0, D, cy, B, aK, aV) : EnvT) h0 ft fr ns g5 fu fs fh hs g0 ++ wMo ((fun _ => 0, D, cy, B, aK, aV) : EnvT) fm)[k]? with
  | none => rw [h2] at h1; cases h1
  | some q =>
    rw [h2] at h1
    obtain ⟨a, x⟩ := q
    exact ⟨x, by rw [show a = adF h0 ft fr ns fu fs fh hs fm k from Option.some.inj h1]; rfl⟩
