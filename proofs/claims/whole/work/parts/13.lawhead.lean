def R_law : String := "BenchOrdersLaw"
def lw_P (b : Addr) (xs : List Int32) (args : Array Value) (s : State) : Prop := args = #[.ref b] ∧ s.IntsAt b xs ∧ xs.length ≤ 2560 ∧ (Jvm.Cond.and given_1 narrow_1).before args s = true
def lw_Q (_ : Array Value) (s : State) (o : Outcome) (t : State) : Prop := o = .returned (some (.int 1)) ∧ Framed s o t [] 600000 7302250
def lw_Z (below : List Frame) (a : Array Value) (s : State) : State → Prop := fun t => ∃ o, t.status = .running ∧ Ended t below o ∧ lw_Q a s o t
/-- the law's own end, with 1 on the stack, nothing written that was there before, its room as the claim has it -/
theorem lw_ret {p : Program} {l : Launch} {e : Env} {s : State} {m : MethodId} {below : List Frame} {meth : Method} {c : Code} {b : Nat} (hx : p.tables.exec = Jvm.exec) (hb : c.code = code) (hr : meth.sig.returnType = ret) (hlocks : meth.locks = false) {pc : Nat} {H : Heap} {ls : Array Slot} (hdg : decode code pc = .ok (.ireturn, 1)) : W p l e room_1 s m #[Value.ref b] below meth c H [] 600000 7302250 (lw_Z below #[Value.ref b] s) (F0 m pc ls [.int 1]) := by
  intro T hT X
  obtain ⟨fs, hret, hrun, hended, hW, hframe⟩ := X.leave (v := some (.int 1)) (hlocks := hlocks) (fun h => by rw [hr] at h; cases h)
  have hmeth' : T.vm.method? m = some meth := X.method'
  refine ⟨T.setFrames fs, ?_, .returned (some (.int 1)), hrun, hended, rfl, ⟨_, rfl⟩, hW, hframe⟩
  jvm_step X.here [X.here.top, hx, hb, hdg, hmeth', hr, ret, narrow_b1]
  (try refine ⟨rfl, ?_⟩); (try refine ⟨rfl, ?_⟩)
  first | (intro acts; rw [hret _ acts rfl rfl rfl]) | rw [hret _ _ rfl rfl rfl]
  exact Steps.refl _
/-- what holds at the law's entry: the machine, the code, the tables' words (any of lw_tbl by 'hts w (by decide +kernel)'), the script of L ints xs at the cell b, what the Statement gives of the start (any of its parts by flat_of_before) -/
def lw_At (p : Program) (s : State) (m : MethodId) (meth : Method) (c : Code) (b L : Nat) (xs : Nat → Int32) : Prop :=
  p.tables.exec = Jvm.exec ∧ c.code = code ∧ meth.sig.returnType = ret ∧ c.maxLocals = 4 ∧ s.vm.findClass R_law = some m.cls ∧ (∀ w ∈ lw_tbl, w.before #[Value.ref b] s = true) ∧ va_X b L xs s s.heap ∧ b < s.heap.size ∧ meth.locks = false ∧ (Jvm.Cond.and given_1 narrow_1).before #[Value.ref b] s = true
/-- what the law's own entry knows -/
def LF (E : EnvT) (b L : Nat) (xs : Nat → Int32) (s : State) : Prop := va_X b L xs s s.heap ∧ b < s.heap.size ∧ eB E = s.heap.size
def Zlaw (E : EnvT) (b L : Nat) (xs : Nat → Int32) : ZT := fun _ v s args below t => args = #[Value.ref b] → LF E b L xs s → v = some (.int 1) → lw_Z below args s t
section LawRows
variable {l : Launch} {E : EnvT} {own : String} {cc : ByteArray} {nL : Nat} {rt : Option FieldType} {R : Room} {cells slots : Nat} {α : Type} {rv : α → Option Value} {res : Option (Mem × α)} {σ : Mem} {pc : Nat} {lv : List (Nat × Value)} {st : List Value} {b L : Nat} {xs : Nat → Int32}
theorem v_sLen (d : decode cc pc = .ok (.arraylength, 1)) (k : V l E own cc nL rt R cells slots (Zlaw E b L xs) rv res σ (pc + 1) lv (.int (Int32.ofNat L) :: st)) : V l E own cc nL rt R cells slots (Zlaw E b L xs) rv res σ pc lv (.ref b :: st) := by
  intro σ' r hr p e s m args below meth c H locs ls F hP hS hl
  by_cases hf : LF E b L xs s
  · exact va_slen F.1 F.2.1 hf.1 hf.2.1 (show ¬ eB E ≤ b by rw [hf.2.2]; exact Nat.not_le.mpr hf.2.1) hS d (k σ' r hr p e s m args below meth c H locs ls F hP hS hl)
  · exact fun T hT X => ⟨_, Steps.refl _, fun _ h => absurd h hf⟩
theorem v_sLd {i : Int32} (hi : inR i L = true) (d : decode cc pc = .ok (.iaload, 1)) (k : V l E own cc nL rt R cells slots (Zlaw E b L xs) rv res σ (pc + 1) lv (.int (xs (ix i)) :: st)) : V l E own cc nL rt R cells slots (Zlaw E b L xs) rv res σ pc lv (.int i :: .ref b :: st) := by
  intro σ' r hr p e s m args below meth c H locs ls F hP hS hl
  by_cases hf : LF E b L xs s
  · exact va_sld F.1 F.2.1 hf.1 hf.2.1 (show ¬ eB E ≤ b by rw [hf.2.2]; exact Nat.not_le.mpr hf.2.1) hS (inR_vp hi) d (k σ' r hr p e s m args below meth c H locs ls F hP hS hl)
  · exact fun T hT X => ⟨_, Steps.refl _, fun _ h => absurd h hf⟩
theorem v_sRet {x : Int32} (hc : cells ≤ 600000) (hsl : slots ≤ 7302250) (d : decode code pc = .ok (.ireturn, 1)) : V l E own code nL ret room_1 cells slots (Zlaw E b L xs) rvI (some (σ, x)) σ pc lv [.int x] := by
  intro σ' r hr p e s m args below meth c H locs ls F hP hS hl
  cases hr
  by_cases hf : args = #[Value.ref b] ∧ LF E b L xs s ∧ x = 1
  · obtain ⟨h1, hf, h2⟩ := hf
    subst h1
    subst h2
    refine va_forget (fun q hq => by have := hS.2.2 q hq; rw [← hf.2.2]; exact this) ?_
    refine W.widen (k := 600000) (n := 7302250) hc hsl ?_
    obtain ⟨hx, hb, -, hrt, hlk, -⟩ := F
    intro T hT X
    obtain ⟨t, a1, a2⟩ := lw_ret (H := H) (ls := ls) (b := b) hx hb hrt hlk d T hT X
    exact ⟨t, a1, fun _ _ _ => a2⟩
  · exact fun T hT X => ⟨_, Steps.refl _, fun h1 h2 h3 => absurd ⟨h1, h2, by cases h3; rfl⟩ hf⟩
end LawRows
theorem q358 : Cond.methodLink "BenchOrdersLaw" 13 yX8_node ∈ tb := tbm 358 (by decide +kernel) rfl
theorem q359 : Cond.instanceMethod yX8_node ∈ tb := tbm 359 (by decide +kernel) rfl
theorem q360 : Cond.selects "BenchOrders" yX8_node yX8_node ∈ tb := tbm 360 (by decide +kernel) rfl
theorem q361 : Cond.code yX8_node prog_1_method_2_code 7 (some .int) ∈ tb := tbm 361 (by decide +kernel) rfl
theorem q433 : Cond.methodLink "BenchOrdersLaw" 18 yX8_range ∈ tb := tbm 433 (by decide +kernel) rfl
theorem q434 : Cond.instanceMethod yX8_range ∈ tb := tbm 434 (by decide +kernel) rfl
theorem q435 : Cond.selects "BenchOrders" yX8_range yX8_range ∈ tb := tbm 435 (by decide +kernel) rfl
theorem q436 : Cond.code yX8_range prog_1_method_3_code 5 (some .int) ∈ tb := tbm 436 (by decide +kernel) rfl
theorem q442 : Cond.methodLink "BenchOrdersLaw" 23 yX8_of ∈ tb := tbm 442 (by decide +kernel) rfl
theorem q443 : Cond.instanceMethod yX8_of ∈ tb := tbm 443 (by decide +kernel) rfl
theorem q444 : Cond.selects "BenchOrders" yX8_of yX8_of ∈ tb := tbm 444 (by decide +kernel) rfl
theorem q445 : Cond.code yX8_of prog_1_method_4_code 3 (some .int) ∈ tb := tbm 445 (by decide +kernel) rfl
theorem q450 : Cond.methodLink "BenchOrdersLaw" 28 yX8_value ∈ tb := tbm 450 (by decide +kernel) rfl
theorem q451 : Cond.instanceMethod yX8_value ∈ tb := tbm 451 (by decide +kernel) rfl
theorem q452 : Cond.selects "BenchOrders" yX8_value yX8_value ∈ tb := tbm 452 (by decide +kernel) rfl
theorem q453 : Cond.code yX8_value prog_1_method_5_code 3 (some .int) ∈ tb := tbm 453 (by decide +kernel) rfl
theorem q458 : Cond.methodLink "BenchOrdersLaw" 32 yX8_type ∈ tb := tbm 458 (by decide +kernel) rfl
theorem q459 : Cond.instanceMethod yX8_type ∈ tb := tbm 459 (by decide +kernel) rfl
theorem q460 : Cond.selects "BenchOrders" yX8_type yX8_type ∈ tb := tbm 460 (by decide +kernel) rfl
theorem q461 : Cond.code yX8_type prog_1_method_6_code 2 (some .int) ∈ tb := tbm 461 (by decide +kernel) rfl
theorem q466 : Cond.methodLink "BenchOrdersLaw" 37 yX8_clear ∈ tb := tbm 466 (by decide +kernel) rfl
theorem q467 : Cond.instanceMethod yX8_clear ∈ tb := tbm 467 (by decide +kernel) rfl
theorem q468 : Cond.selects "BenchOrders" yX8_clear yX8_clear ∈ tb := tbm 468 (by decide +kernel) rfl
theorem q469 : Cond.code yX8_clear prog_1_method_7_code 2 (some .int) ∈ tb := tbm 469 (by decide +kernel) rfl
theorem q470 : Cond.methodLink "BenchOrdersLaw" 42 yX8_sends ∈ tb := tbm 470 (by decide +kernel) rfl
theorem q471 : Cond.instanceMethod yX8_sends ∈ tb := tbm 471 (by decide +kernel) rfl
theorem q472 : Cond.selects "BenchOrders" yX8_sends yX8_sends ∈ tb := tbm 472 (by decide +kernel) rfl
theorem q473 : Cond.code yX8_sends prog_1_method_8_code 4 (some .int) ∈ tb := tbm 473 (by decide +kernel) rfl
theorem q710 : Cond.methodLink "BenchOrdersLaw" 46 yX8_finds ∈ tb := tbm 710 (by decide +kernel) rfl
theorem q711 : Cond.instanceMethod yX8_finds ∈ tb := tbm 711 (by decide +kernel) rfl
theorem q712 : Cond.selects "BenchOrders" yX8_finds yX8_finds ∈ tb := tbm 712 (by decide +kernel) rfl
theorem q713 : Cond.code yX8_finds prog_1_method_9_code 1 (some .int) ∈ tb := tbm 713 (by decide +kernel) rfl
theorem q718 : Cond.methodLink "BenchOrdersLaw" 50 yX8_answer ∈ tb := tbm 718 (by decide +kernel) rfl
theorem q719 : Cond.instanceMethod yX8_answer ∈ tb := tbm 719 (by decide +kernel) rfl
theorem q720 : Cond.selects "BenchOrders" yX8_answer yX8_answer ∈ tb := tbm 720 (by decide +kernel) rfl
theorem q721 : Cond.code yX8_answer prog_1_method_10_code 1 (some .int) ∈ tb := tbm 721 (by decide +kernel) rfl
theorem q731 : Cond.methodLink "BenchOrdersLaw" 54 yX8_fault ∈ tb := tbm 731 (by decide +kernel) rfl
theorem q732 : Cond.instanceMethod yX8_fault ∈ tb := tbm 732 (by decide +kernel) rfl
theorem q733 : Cond.selects "BenchOrders" yX8_fault yX8_fault ∈ tb := tbm 733 (by decide +kernel) rfl
theorem q734 : Cond.code yX8_fault prog_1_method_11_code 1 (some .int) ∈ tb := tbm 734 (by decide +kernel) rfl
theorem q735 : Cond.methodLink "BenchOrdersLaw" 58 yX8_condition ∈ tb := tbm 735 (by decide +kernel) rfl
theorem q736 : Cond.instanceMethod yX8_condition ∈ tb := tbm 736 (by decide +kernel) rfl
theorem q737 : Cond.selects "BenchOrders" yX8_condition yX8_condition ∈ tb := tbm 737 (by decide +kernel) rfl
theorem q738 : Cond.code yX8_condition prog_1_method_12_code 4 (some .int) ∈ tb := tbm 738 (by decide +kernel) rfl
theorem q743 : Cond.methodLink "BenchOrdersLaw" 62 yX8_masks ∈ tb := tbm 743 (by decide +kernel) rfl
theorem q744 : Cond.instanceMethod yX8_masks ∈ tb := tbm 744 (by decide +kernel) rfl
theorem q745 : Cond.selects "BenchOrders" yX8_masks yX8_masks ∈ tb := tbm 745 (by decide +kernel) rfl
theorem q746 : Cond.code yX8_masks prog_1_method_13_code 3 (some .int) ∈ tb := tbm 746 (by decide +kernel) rfl
theorem q751 : Cond.methodLink "BenchOrdersLaw" 66 yX8_edges ∈ tb := tbm 751 (by decide +kernel) rfl
theorem q752 : Cond.instanceMethod yX8_edges ∈ tb := tbm 752 (by decide +kernel) rfl
theorem q753 : Cond.selects "BenchOrders" yX8_edges yX8_edges ∈ tb := tbm 753 (by decide +kernel) rfl
theorem q754 : Cond.code yX8_edges prog_1_method_14_code 2 (some .int) ∈ tb := tbm 754 (by decide +kernel) rfl
theorem q755 : Cond.methodLink "BenchOrdersLaw" 70 yX8_finishes ∈ tb := tbm 755 (by decide +kernel) rfl
theorem q756 : Cond.instanceMethod yX8_finishes ∈ tb := tbm 756 (by decide +kernel) rfl
theorem q757 : Cond.selects "BenchOrders" yX8_finishes yX8_finishes ∈ tb := tbm 757 (by decide +kernel) rfl
theorem q758 : Cond.code yX8_finishes prog_1_method_15_code 2 (some .int) ∈ tb := tbm 758 (by decide +kernel) rfl
theorem q764 : Cond.methodLink "BenchOrdersLaw" 74 yX8_state ∈ tb := tbm 764 (by decide +kernel) rfl
theorem q765 : Cond.instanceMethod yX8_state ∈ tb := tbm 765 (by decide +kernel) rfl
theorem q766 : Cond.selects "BenchOrders" yX8_state yX8_state ∈ tb := tbm 766 (by decide +kernel) rfl
theorem q767 : Cond.code yX8_state prog_1_method_16_code 2 (some .int) ∈ tb := tbm 767 (by decide +kernel) rfl
theorem q772 : Cond.methodLink "BenchOrdersLaw" 78 yX8_answers ∈ tb := tbm 772 (by decide +kernel) rfl
theorem q773 : Cond.instanceMethod yX8_answers ∈ tb := tbm 773 (by decide +kernel) rfl
theorem q774 : Cond.selects "BenchOrders" yX8_answers yX8_answers ∈ tb := tbm 774 (by decide +kernel) rfl
theorem q775 : Cond.code yX8_answers prog_1_method_17_code 2 (some .int) ∈ tb := tbm 775 (by decide +kernel) rfl
theorem q777 : Cond.methodLink "BenchOrdersLaw" 82 yX8_faults ∈ tb := tbm 777 (by decide +kernel) rfl
theorem q778 : Cond.instanceMethod yX8_faults ∈ tb := tbm 778 (by decide +kernel) rfl
theorem q779 : Cond.selects "BenchOrders" yX8_faults yX8_faults ∈ tb := tbm 779 (by decide +kernel) rfl
theorem q780 : Cond.code yX8_faults prog_1_method_18_code 2 (some .int) ∈ tb := tbm 780 (by decide +kernel) rfl
theorem q781 : Cond.methodLink "BenchOrdersLaw" 86 yX8_pending ∈ tb := tbm 781 (by decide +kernel) rfl
theorem q782 : Cond.instanceMethod yX8_pending ∈ tb := tbm 782 (by decide +kernel) rfl
theorem q783 : Cond.selects "BenchOrders" yX8_pending yX8_pending ∈ tb := tbm 783 (by decide +kernel) rfl
theorem q784 : Cond.code yX8_pending prog_1_method_19_code 2 (some .int) ∈ tb := tbm 784 (by decide +kernel) rfl
theorem q785 : Cond.methodLink "BenchOrdersLaw" 90 yX8_back ∈ tb := tbm 785 (by decide +kernel) rfl
theorem q786 : Cond.instanceMethod yX8_back ∈ tb := tbm 786 (by decide +kernel) rfl
theorem q787 : Cond.selects "BenchOrders" yX8_back yX8_back ∈ tb := tbm 787 (by decide +kernel) rfl
theorem q788 : Cond.code yX8_back prog_1_method_20_code 1 (some .int) ∈ tb := tbm 788 (by decide +kernel) rfl
theorem q793 : Cond.methodLink "BenchOrdersLaw" 94 yX8_told ∈ tb := tbm 793 (by decide +kernel) rfl
theorem q794 : Cond.instanceMethod yX8_told ∈ tb := tbm 794 (by decide +kernel) rfl
theorem q795 : Cond.selects "BenchOrders" yX8_told yX8_told ∈ tb := tbm 795 (by decide +kernel) rfl
theorem q796 : Cond.code yX8_told prog_1_method_21_code 2 (some .int) ∈ tb := tbm 796 (by decide +kernel) rfl
theorem q801 : Cond.methodLink "BenchOrdersLaw" 98 yX8_digest ∈ tb := tbm 801 (by decide +kernel) rfl
theorem q802 : Cond.instanceMethod yX8_digest ∈ tb := tbm 802 (by decide +kernel) rfl
theorem q803 : Cond.selects "BenchOrders" yX8_digest yX8_digest ∈ tb := tbm 803 (by decide +kernel) rfl
theorem q804 : Cond.code yX8_digest prog_1_method_22_code 4 (some .long) ∈ tb := tbm 804 (by decide +kernel) rfl
theorem q896 : Cond.methodLink "BenchOrdersLaw" 93 yX9_back ∈ tb := tbm 896 (by decide +kernel) rfl
theorem q897 : Cond.instanceMethod yX9_back ∈ tb := tbm 897 (by decide +kernel) rfl
theorem q898 : Cond.selects "BenchOrdersModel" yX9_back yX9_back ∈ tb := tbm 898 (by decide +kernel) rfl
theorem q899 : Cond.code yX9_back prog_11_method_6_code 2 (some .int) ∈ tb := tbm 899 (by decide +kernel) rfl
theorem q904 : Cond.methodLink "BenchOrdersLaw" 17 yX9_node ∈ tb := tbm 904 (by decide +kernel) rfl
theorem q905 : Cond.instanceMethod yX9_node ∈ tb := tbm 905 (by decide +kernel) rfl
theorem q906 : Cond.selects "BenchOrdersModel" yX9_node yX9_node ∈ tb := tbm 906 (by decide +kernel) rfl
theorem q907 : Cond.code yX9_node prog_11_method_16_code 8 (some .int) ∈ tb := tbm 907 (by decide +kernel) rfl
theorem q944 : Cond.methodLink "BenchOrdersLaw" 22 yX9_range ∈ tb := tbm 944 (by decide +kernel) rfl
theorem q945 : Cond.instanceMethod yX9_range ∈ tb := tbm 945 (by decide +kernel) rfl
theorem q946 : Cond.selects "BenchOrdersModel" yX9_range yX9_range ∈ tb := tbm 946 (by decide +kernel) rfl
theorem q947 : Cond.code yX9_range prog_11_method_18_code 5 (some .int) ∈ tb := tbm 947 (by decide +kernel) rfl
theorem q956 : Cond.methodLink "BenchOrdersLaw" 27 yX9_of ∈ tb := tbm 956 (by decide +kernel) rfl
theorem q957 : Cond.instanceMethod yX9_of ∈ tb := tbm 957 (by decide +kernel) rfl
theorem q958 : Cond.selects "BenchOrdersModel" yX9_of yX9_of ∈ tb := tbm 958 (by decide +kernel) rfl
theorem q959 : Cond.code yX9_of prog_11_method_20_code 3 (some .int) ∈ tb := tbm 959 (by decide +kernel) rfl
theorem q964 : Cond.methodLink "BenchOrdersLaw" 31 yX9_value ∈ tb := tbm 964 (by decide +kernel) rfl
theorem q965 : Cond.instanceMethod yX9_value ∈ tb := tbm 965 (by decide +kernel) rfl
theorem q966 : Cond.selects "BenchOrdersModel" yX9_value yX9_value ∈ tb := tbm 966 (by decide +kernel) rfl
theorem q967 : Cond.code yX9_value prog_11_method_21_code 3 (some .int) ∈ tb := tbm 967 (by decide +kernel) rfl
theorem q968 : Cond.methodLink "BenchOrdersLaw" 45 yX9_sends ∈ tb := tbm 968 (by decide +kernel) rfl
theorem q969 : Cond.instanceMethod yX9_sends ∈ tb := tbm 969 (by decide +kernel) rfl
theorem q970 : Cond.selects "BenchOrdersModel" yX9_sends yX9_sends ∈ tb := tbm 970 (by decide +kernel) rfl
theorem q971 : Cond.code yX9_sends prog_11_method_47_code 4 (some .int) ∈ tb := tbm 971 (by decide +kernel) rfl
theorem q1075 : Cond.methodLink "BenchOrdersLaw" 49 yX9_finds ∈ tb := tbm 1075 (by decide +kernel) rfl
theorem q1076 : Cond.instanceMethod yX9_finds ∈ tb := tbm 1076 (by decide +kernel) rfl
theorem q1077 : Cond.selects "BenchOrdersModel" yX9_finds yX9_finds ∈ tb := tbm 1077 (by decide +kernel) rfl
theorem q1078 : Cond.code yX9_finds prog_11_method_48_code 1 (some .int) ∈ tb := tbm 1078 (by decide +kernel) rfl
theorem q1079 : Cond.methodLink "BenchOrdersLaw" 53 yX9_answer ∈ tb := tbm 1079 (by decide +kernel) rfl
theorem q1080 : Cond.instanceMethod yX9_answer ∈ tb := tbm 1080 (by decide +kernel) rfl
theorem q1081 : Cond.selects "BenchOrdersModel" yX9_answer yX9_answer ∈ tb := tbm 1081 (by decide +kernel) rfl
theorem q1082 : Cond.code yX9_answer prog_11_method_51_code 1 (some .int) ∈ tb := tbm 1082 (by decide +kernel) rfl
theorem q1091 : Cond.methodLink "BenchOrdersLaw" 57 yX9_fault ∈ tb := tbm 1091 (by decide +kernel) rfl
theorem q1092 : Cond.instanceMethod yX9_fault ∈ tb := tbm 1092 (by decide +kernel) rfl
theorem q1093 : Cond.selects "BenchOrdersModel" yX9_fault yX9_fault ∈ tb := tbm 1093 (by decide +kernel) rfl
theorem q1094 : Cond.code yX9_fault prog_11_method_52_code 1 (some .int) ∈ tb := tbm 1094 (by decide +kernel) rfl
theorem q1095 : Cond.methodLink "BenchOrdersLaw" 61 yX9_condition ∈ tb := tbm 1095 (by decide +kernel) rfl
theorem q1096 : Cond.instanceMethod yX9_condition ∈ tb := tbm 1096 (by decide +kernel) rfl
theorem q1097 : Cond.selects "BenchOrdersModel" yX9_condition yX9_condition ∈ tb := tbm 1097 (by decide +kernel) rfl
theorem q1098 : Cond.code yX9_condition prog_11_method_53_code 4 (some .int) ∈ tb := tbm 1098 (by decide +kernel) rfl
theorem q1099 : Cond.methodLink "BenchOrdersLaw" 65 yX9_masks ∈ tb := tbm 1099 (by decide +kernel) rfl
theorem q1100 : Cond.instanceMethod yX9_masks ∈ tb := tbm 1100 (by decide +kernel) rfl
theorem q1101 : Cond.selects "BenchOrdersModel" yX9_masks yX9_masks ∈ tb := tbm 1101 (by decide +kernel) rfl
theorem q1102 : Cond.code yX9_masks prog_11_method_54_code 4 (some .int) ∈ tb := tbm 1102 (by decide +kernel) rfl
theorem q1103 : Cond.methodLink "BenchOrdersLaw" 69 yX9_edges ∈ tb := tbm 1103 (by decide +kernel) rfl
theorem q1104 : Cond.instanceMethod yX9_edges ∈ tb := tbm 1104 (by decide +kernel) rfl
theorem q1105 : Cond.selects "BenchOrdersModel" yX9_edges yX9_edges ∈ tb := tbm 1105 (by decide +kernel) rfl
theorem q1106 : Cond.code yX9_edges prog_11_method_55_code 2 (some .int) ∈ tb := tbm 1106 (by decide +kernel) rfl
theorem q1107 : Cond.methodLink "BenchOrdersLaw" 73 yX9_finishes ∈ tb := tbm 1107 (by decide +kernel) rfl
theorem q1108 : Cond.instanceMethod yX9_finishes ∈ tb := tbm 1108 (by decide +kernel) rfl
theorem q1109 : Cond.selects "BenchOrdersModel" yX9_finishes yX9_finishes ∈ tb := tbm 1109 (by decide +kernel) rfl
theorem q1110 : Cond.code yX9_finishes prog_11_method_56_code 2 (some .int) ∈ tb := tbm 1110 (by decide +kernel) rfl
theorem q1111 : Cond.methodLink "BenchOrdersLaw" 77 yX9_state ∈ tb := tbm 1111 (by decide +kernel) rfl
theorem q1112 : Cond.instanceMethod yX9_state ∈ tb := tbm 1112 (by decide +kernel) rfl
theorem q1113 : Cond.selects "BenchOrdersModel" yX9_state yX9_state ∈ tb := tbm 1113 (by decide +kernel) rfl
theorem q1114 : Cond.code yX9_state prog_11_method_58_code 2 (some .int) ∈ tb := tbm 1114 (by decide +kernel) rfl
theorem q1119 : Cond.methodLink "BenchOrdersLaw" 81 yX9_answers ∈ tb := tbm 1119 (by decide +kernel) rfl
theorem q1120 : Cond.instanceMethod yX9_answers ∈ tb := tbm 1120 (by decide +kernel) rfl
theorem q1121 : Cond.selects "BenchOrdersModel" yX9_answers yX9_answers ∈ tb := tbm 1121 (by decide +kernel) rfl
theorem q1122 : Cond.code yX9_answers prog_11_method_60_code 2 (some .int) ∈ tb := tbm 1122 (by decide +kernel) rfl
theorem q1127 : Cond.methodLink "BenchOrdersLaw" 85 yX9_faults ∈ tb := tbm 1127 (by decide +kernel) rfl
theorem q1128 : Cond.instanceMethod yX9_faults ∈ tb := tbm 1128 (by decide +kernel) rfl
theorem q1129 : Cond.selects "BenchOrdersModel" yX9_faults yX9_faults ∈ tb := tbm 1129 (by decide +kernel) rfl
theorem q1130 : Cond.code yX9_faults prog_11_method_61_code 2 (some .int) ∈ tb := tbm 1130 (by decide +kernel) rfl
theorem q1131 : Cond.methodLink "BenchOrdersLaw" 89 yX9_pending ∈ tb := tbm 1131 (by decide +kernel) rfl
theorem q1132 : Cond.instanceMethod yX9_pending ∈ tb := tbm 1132 (by decide +kernel) rfl
theorem q1133 : Cond.selects "BenchOrdersModel" yX9_pending yX9_pending ∈ tb := tbm 1133 (by decide +kernel) rfl
theorem q1134 : Cond.code yX9_pending prog_11_method_62_code 2 (some .int) ∈ tb := tbm 1134 (by decide +kernel) rfl
theorem q1135 : Cond.methodLink "BenchOrdersLaw" 36 yX9_type ∈ tb := tbm 1135 (by decide +kernel) rfl
theorem q1136 : Cond.instanceMethod yX9_type ∈ tb := tbm 1136 (by decide +kernel) rfl
theorem q1137 : Cond.selects "BenchOrdersModel" yX9_type yX9_type ∈ tb := tbm 1137 (by decide +kernel) rfl
theorem q1138 : Cond.code yX9_type prog_11_method_63_code 2 (some .int) ∈ tb := tbm 1138 (by decide +kernel) rfl
theorem q1139 : Cond.methodLink "BenchOrdersLaw" 41 yX9_clear ∈ tb := tbm 1139 (by decide +kernel) rfl
theorem q1140 : Cond.instanceMethod yX9_clear ∈ tb := tbm 1140 (by decide +kernel) rfl
theorem q1141 : Cond.selects "BenchOrdersModel" yX9_clear yX9_clear ∈ tb := tbm 1141 (by decide +kernel) rfl
theorem q1142 : Cond.code yX9_clear prog_11_method_64_code 2 (some .int) ∈ tb := tbm 1142 (by decide +kernel) rfl
theorem q1143 : Cond.methodLink "BenchOrdersLaw" 97 yX9_told ∈ tb := tbm 1143 (by decide +kernel) rfl
theorem q1144 : Cond.instanceMethod yX9_told ∈ tb := tbm 1144 (by decide +kernel) rfl
theorem q1145 : Cond.selects "BenchOrdersModel" yX9_told yX9_told ∈ tb := tbm 1145 (by decide +kernel) rfl
theorem q1146 : Cond.code yX9_told prog_11_method_66_code 2 (some .int) ∈ tb := tbm 1146 (by decide +kernel) rfl
theorem q1151 : Cond.methodLink "BenchOrdersLaw" 102 yX9_digest ∈ tb := tbm 1151 (by decide +kernel) rfl
theorem q1152 : Cond.instanceMethod yX9_digest ∈ tb := tbm 1152 (by decide +kernel) rfl
theorem q1153 : Cond.selects "BenchOrdersModel" yX9_digest yX9_digest ∈ tb := tbm 1153 (by decide +kernel) rfl
theorem q1154 : Cond.code yX9_digest prog_11_method_69_code 3 (some .long) ∈ tb := tbm 1154 (by decide +kernel) rfl
theorem kv_X8_answer : CalV yX8_answer cX8_answer 1 (some .int) RX8 0 := ⟨q719, q720, q70, q721, by decide +kernel⟩
theorem kv_X8_answers : CalV yX8_answers cX8_answers 2 (some .int) RX8 1 := ⟨q773, q774, q70, q775, by decide +kernel⟩
theorem kv_X8_back : CalV yX8_back cX8_back 1 (some .int) RX8 0 := ⟨q786, q787, q70, q788, by decide +kernel⟩
theorem kv_X8_clear : CalV yX8_clear cX8_clear 2 (some .int) RX8 0 := ⟨q467, q468, q70, q469, by decide +kernel⟩
theorem kv_X8_condition : CalV yX8_condition cX8_condition 4 (some .int) RX8 2 := ⟨q736, q737, q70, q738, by decide +kernel⟩
theorem kv_X8_digest : CalV yX8_digest cX8_digest 4 (some .long) RX8 0 := ⟨q802, q803, q70, q804, by decide +kernel⟩
theorem kv_X8_edges : CalV yX8_edges cX8_edges 2 (some .int) RX8 0 := ⟨q752, q753, q70, q754, by decide +kernel⟩
theorem kv_X8_fault : CalV yX8_fault cX8_fault 1 (some .int) RX8 0 := ⟨q732, q733, q70, q734, by decide +kernel⟩
theorem kv_X8_faults : CalV yX8_faults cX8_faults 2 (some .int) RX8 1 := ⟨q778, q779, q70, q780, by decide +kernel⟩
theorem kv_X8_finds : CalV yX8_finds cX8_finds 1 (some .int) RX8 0 := ⟨q711, q712, q70, q713, by decide +kernel⟩
theorem kv_X8_finishes : CalV yX8_finishes cX8_finishes 2 (some .int) RX8 1 := ⟨q756, q757, q70, q758, by decide +kernel⟩
theorem kv_X8_masks : CalV yX8_masks cX8_masks 3 (some .int) RX8 2 := ⟨q744, q745, q70, q746, by decide +kernel⟩
theorem kv_X8_node : CalV yX8_node cX8_node 7 (some .int) RX8 4 := ⟨q359, q360, q70, q361, by decide +kernel⟩
theorem kv_X8_of : CalV yX8_of cX8_of 3 (some .int) RX8 2 := ⟨q443, q444, q70, q445, by decide +kernel⟩
theorem kv_X8_pending : CalV yX8_pending cX8_pending 2 (some .int) RX8 1 := ⟨q782, q783, q70, q784, by decide +kernel⟩
theorem kv_X8_range : CalV yX8_range cX8_range 5 (some .int) RX8 3 := ⟨q434, q435, q70, q436, by decide +kernel⟩
theorem kv_X8_sends : CalV yX8_sends cX8_sends 4 (some .int) RX8 0 := ⟨q471, q472, q70, q473, by decide +kernel⟩
theorem kv_X8_state : CalV yX8_state cX8_state 2 (some .int) RX8 1 := ⟨q765, q766, q70, q767, by decide +kernel⟩
theorem kv_X8_told : CalV yX8_told cX8_told 2 (some .int) RX8 1 := ⟨q794, q795, q70, q796, by decide +kernel⟩
theorem kv_X8_type : CalV yX8_type cX8_type 2 (some .int) RX8 1 := ⟨q459, q460, q70, q461, by decide +kernel⟩
theorem kv_X8_value : CalV yX8_value cX8_value 3 (some .int) RX8 2 := ⟨q451, q452, q70, q453, by decide +kernel⟩
theorem kv_X9_answer : CalV yX9_answer cX9_answer 1 (some .int) RX9 0 := ⟨q1080, q1081, q80, q1082, by decide +kernel⟩
theorem kv_X9_answers : CalV yX9_answers cX9_answers 2 (some .int) RX9 1 := ⟨q1120, q1121, q80, q1122, by decide +kernel⟩
theorem kv_X9_back : CalV yX9_back cX9_back 2 (some .int) RX9 0 := ⟨q897, q898, q80, q899, by decide +kernel⟩
theorem kv_X9_clear : CalV yX9_clear cX9_clear 2 (some .int) RX9 0 := ⟨q1140, q1141, q80, q1142, by decide +kernel⟩
theorem kv_X9_condition : CalV yX9_condition cX9_condition 4 (some .int) RX9 2 := ⟨q1096, q1097, q80, q1098, by decide +kernel⟩
theorem kv_X9_digest : CalV yX9_digest cX9_digest 3 (some .long) RX9 0 := ⟨q1152, q1153, q80, q1154, by decide +kernel⟩
theorem kv_X9_edges : CalV yX9_edges cX9_edges 2 (some .int) RX9 0 := ⟨q1104, q1105, q80, q1106, by decide +kernel⟩
theorem kv_X9_fault : CalV yX9_fault cX9_fault 1 (some .int) RX9 0 := ⟨q1092, q1093, q80, q1094, by decide +kernel⟩
theorem kv_X9_faults : CalV yX9_faults cX9_faults 2 (some .int) RX9 1 := ⟨q1128, q1129, q80, q1130, by decide +kernel⟩
theorem kv_X9_finds : CalV yX9_finds cX9_finds 1 (some .int) RX9 0 := ⟨q1076, q1077, q80, q1078, by decide +kernel⟩
theorem kv_X9_finishes : CalV yX9_finishes cX9_finishes 2 (some .int) RX9 1 := ⟨q1108, q1109, q80, q1110, by decide +kernel⟩
theorem kv_X9_masks : CalV yX9_masks cX9_masks 4 (some .int) RX9 2 := ⟨q1100, q1101, q80, q1102, by decide +kernel⟩
theorem kv_X9_node : CalV yX9_node cX9_node 8 (some .int) RX9 4 := ⟨q905, q906, q80, q907, by decide +kernel⟩
theorem kv_X9_of : CalV yX9_of cX9_of 3 (some .int) RX9 2 := ⟨q957, q958, q80, q959, by decide +kernel⟩
theorem kv_X9_pending : CalV yX9_pending cX9_pending 2 (some .int) RX9 1 := ⟨q1132, q1133, q80, q1134, by decide +kernel⟩
theorem kv_X9_range : CalV yX9_range cX9_range 5 (some .int) RX9 3 := ⟨q945, q946, q80, q947, by decide +kernel⟩
theorem kv_X9_sends : CalV yX9_sends cX9_sends 4 (some .int) RX9 0 := ⟨q969, q970, q80, q971, by decide +kernel⟩
theorem kv_X9_state : CalV yX9_state cX9_state 2 (some .int) RX9 1 := ⟨q1112, q1113, q80, q1114, by decide +kernel⟩
theorem kv_X9_told : CalV yX9_told cX9_told 2 (some .int) RX9 1 := ⟨q1144, q1145, q80, q1146, by decide +kernel⟩
theorem kv_X9_type : CalV yX9_type cX9_type 2 (some .int) RX9 1 := ⟨q1136, q1137, q80, q1138, by decide +kernel⟩
theorem kv_X9_value : CalV yX9_value cX9_value 3 (some .int) RX9 2 := ⟨q965, q966, q80, q967, by decide +kernel⟩
