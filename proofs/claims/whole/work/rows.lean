section
/-- a private method of a class that the tables say can be made, by its rows of tables_1 -/
def lw_okq (q : MethodName × Nat) : Prop := (q.1.cls ≠ "java/lang/invoke/MethodHandle" ∧ q.1.cls ≠ "java/lang/invoke/VarHandle") ∧ Cond.instantiable q.1.cls q.2 ∈ tables_1 ∧ Cond.privateMethod q.1 ∈ tables_1 ∧ Cond.instanceMethod q.1 ∈ tables_1
theorem lw_p0 : lw_okq (⟨"BenchOrders", "isParent", "(I)Z"⟩, 8) := ⟨⟨by decide +kernel, by decide +kernel⟩, List.mem_of_getElem? (i := 17) (by decide +kernel), List.mem_of_getElem? (i := 294) (by decide +kernel), List.mem_of_getElem? (i := 295) (by decide +kernel)⟩
theorem lw_p1 : lw_okq (⟨"BenchOrders", "isNode", "(I)Z"⟩, 8) := ⟨⟨by decide +kernel, by decide +kernel⟩, List.mem_of_getElem? (i := 17) (by decide +kernel), List.mem_of_getElem? (i := 298) (by decide +kernel), List.mem_of_getElem? (i := 299) (by decide +kernel)⟩
theorem lw_p2 : lw_okq (⟨"BenchOrders", "refuse", "(I)I"⟩, 8) := ⟨⟨by decide +kernel, by decide +kernel⟩, List.mem_of_getElem? (i := 17) (by decide +kernel), List.mem_of_getElem? (i := 305) (by decide +kernel), List.mem_of_getElem? (i := 306) (by decide +kernel)⟩
theorem lw_p3 : lw_okq (⟨"BenchOrders$History", "dropOldest", "()V"⟩, 2) := ⟨⟨by decide +kernel, by decide +kernel⟩, List.mem_of_getElem? (i := 248) (by decide +kernel), List.mem_of_getElem? (i := 331) (by decide +kernel), List.mem_of_getElem? (i := 332) (by decide +kernel)⟩
theorem lw_p4 : lw_okq (⟨"BenchOrders$State", "putNumber", "(III)V"⟩, 17) := ⟨⟨by decide +kernel, by decide +kernel⟩, List.mem_of_getElem? (i := 163) (by decide +kernel), List.mem_of_getElem? (i := 360) (by decide +kernel), List.mem_of_getElem? (i := 361) (by decide +kernel)⟩
theorem lw_p5 : lw_okq (⟨"BenchOrders", "isValueNode", "(I)Z"⟩, 8) := ⟨⟨by decide +kernel, by decide +kernel⟩, List.mem_of_getElem? (i := 17) (by decide +kernel), List.mem_of_getElem? (i := 369) (by decide +kernel), List.mem_of_getElem? (i := 370) (by decide +kernel)⟩
theorem lw_p6 : lw_okq (⟨"BenchOrders", "nodeReading", "(II)I"⟩, 8) := ⟨⟨by decide +kernel, by decide +kernel⟩, List.mem_of_getElem? (i := 17) (by decide +kernel), List.mem_of_getElem? (i := 378) (by decide +kernel), List.mem_of_getElem? (i := 379) (by decide +kernel)⟩
theorem lw_p7 : lw_okq (⟨"BenchOrders$Unit", "readCommonHeader", "(LBenchOrders$Text;)Z"⟩, 9) := ⟨⟨by decide +kernel, by decide +kernel⟩, List.mem_of_getElem? (i := 101) (by decide +kernel), List.mem_of_getElem? (i := 419) (by decide +kernel), List.mem_of_getElem? (i := 420) (by decide +kernel)⟩
theorem lw_p8 : lw_okq (⟨"BenchOrders$Unit", "readWordsHeader", "(LBenchOrders$Text;)Z"⟩, 9) := ⟨⟨by decide +kernel, by decide +kernel⟩, List.mem_of_getElem? (i := 101) (by decide +kernel), List.mem_of_getElem? (i := 431) (by decide +kernel), List.mem_of_getElem? (i := 432) (by decide +kernel)⟩
theorem lw_p9 : lw_okq (⟨"BenchOrders$Unit", "readWords", "(LBenchOrders$Text;)Z"⟩, 9) := ⟨⟨by decide +kernel, by decide +kernel⟩, List.mem_of_getElem? (i := 101) (by decide +kernel), List.mem_of_getElem? (i := 435) (by decide +kernel), List.mem_of_getElem? (i := 436) (by decide +kernel)⟩
theorem lw_p10 : lw_okq (⟨"BenchOrders$Unit", "readWord", "(LBenchOrders$Text;)Z"⟩, 9) := ⟨⟨by decide +kernel, by decide +kernel⟩, List.mem_of_getElem? (i := 101) (by decide +kernel), List.mem_of_getElem? (i := 439) (by decide +kernel), List.mem_of_getElem? (i := 440) (by decide +kernel)⟩
theorem lw_p11 : lw_okq (⟨"BenchOrders$Unit", "readBehindHeader", "(LBenchOrders$Text;)Z"⟩, 9) := ⟨⟨by decide +kernel, by decide +kernel⟩, List.mem_of_getElem? (i := 101) (by decide +kernel), List.mem_of_getElem? (i := 447) (by decide +kernel), List.mem_of_getElem? (i := 448) (by decide +kernel)⟩
theorem lw_p12 : lw_okq (⟨"BenchOrders$Unit", "isUnitEnd", "(LBenchOrders$Text;)Z"⟩, 9) := ⟨⟨by decide +kernel, by decide +kernel⟩, List.mem_of_getElem? (i := 101) (by decide +kernel), List.mem_of_getElem? (i := 451) (by decide +kernel), List.mem_of_getElem? (i := 452) (by decide +kernel)⟩
theorem lw_p13 : lw_okq (⟨"BenchOrders$Unit", "readValue", "(LBenchOrders$Text;)Z"⟩, 9) := ⟨⟨by decide +kernel, by decide +kernel⟩, List.mem_of_getElem? (i := 101) (by decide +kernel), List.mem_of_getElem? (i := 455) (by decide +kernel), List.mem_of_getElem? (i := 456) (by decide +kernel)⟩
theorem lw_p14 : lw_okq (⟨"BenchOrders$Unit", "readSwitch", "(LBenchOrders$Text;)Z"⟩, 9) := ⟨⟨by decide +kernel, by decide +kernel⟩, List.mem_of_getElem? (i := 101) (by decide +kernel), List.mem_of_getElem? (i := 460) (by decide +kernel), List.mem_of_getElem? (i := 461) (by decide +kernel)⟩
theorem lw_p15 : lw_okq (⟨"BenchOrders$Unit", "readNumber", "(LBenchOrders$Text;)Z"⟩, 9) := ⟨⟨by decide +kernel, by decide +kernel⟩, List.mem_of_getElem? (i := 101) (by decide +kernel), List.mem_of_getElem? (i := 519) (by decide +kernel), List.mem_of_getElem? (i := 520) (by decide +kernel)⟩
def lw_privs_1 : List (MethodName × Nat) := [(⟨"BenchOrders", "isParent", "(I)Z"⟩, 8), (⟨"BenchOrders", "isNode", "(I)Z"⟩, 8), (⟨"BenchOrders", "refuse", "(I)I"⟩, 8), (⟨"BenchOrders$History", "dropOldest", "()V"⟩, 2), (⟨"BenchOrders$State", "putNumber", "(III)V"⟩, 17), (⟨"BenchOrders", "isValueNode", "(I)Z"⟩, 8), (⟨"BenchOrders", "nodeReading", "(II)I"⟩, 8), (⟨"BenchOrders$Unit", "readCommonHeader", "(LBenchOrders$Text;)Z"⟩, 9), (⟨"BenchOrders$Unit", "readWordsHeader", "(LBenchOrders$Text;)Z"⟩, 9), (⟨"BenchOrders$Unit", "readWords", "(LBenchOrders$Text;)Z"⟩, 9), (⟨"BenchOrders$Unit", "readWord", "(LBenchOrders$Text;)Z"⟩, 9), (⟨"BenchOrders$Unit", "readBehindHeader", "(LBenchOrders$Text;)Z"⟩, 9), (⟨"BenchOrders$Unit", "isUnitEnd", "(LBenchOrders$Text;)Z"⟩, 9), (⟨"BenchOrders$Unit", "readValue", "(LBenchOrders$Text;)Z"⟩, 9), (⟨"BenchOrders$Unit", "readSwitch", "(LBenchOrders$Text;)Z"⟩, 9), (⟨"BenchOrders$Unit", "readNumber", "(LBenchOrders$Text;)Z"⟩, 9)]
theorem lw_r1 : ∀ q ∈ lw_privs_1, lw_okq q := List.forall_mem_cons.mpr ⟨lw_p0, List.forall_mem_cons.mpr ⟨lw_p1, List.forall_mem_cons.mpr ⟨lw_p2, List.forall_mem_cons.mpr ⟨lw_p3, List.forall_mem_cons.mpr ⟨lw_p4, List.forall_mem_cons.mpr ⟨lw_p5, List.forall_mem_cons.mpr ⟨lw_p6, List.forall_mem_cons.mpr ⟨lw_p7, List.forall_mem_cons.mpr ⟨lw_p8, List.forall_mem_cons.mpr ⟨lw_p9, List.forall_mem_cons.mpr ⟨lw_p10, List.forall_mem_cons.mpr ⟨lw_p11, List.forall_mem_cons.mpr ⟨lw_p12, List.forall_mem_cons.mpr ⟨lw_p13, List.forall_mem_cons.mpr ⟨lw_p14, List.forall_mem_cons.mpr ⟨lw_p15, fun _ h => absurd h List.not_mem_nil⟩⟩⟩⟩⟩⟩⟩⟩⟩⟩⟩⟩⟩⟩⟩⟩
theorem lw_p16 : lw_okq (⟨"BenchOrders", "performCommon", "()I"⟩, 8) := ⟨⟨by decide +kernel, by decide +kernel⟩, List.mem_of_getElem? (i := 17) (by decide +kernel), List.mem_of_getElem? (i := 527) (by decide +kernel), List.mem_of_getElem? (i := 528) (by decide +kernel)⟩
theorem lw_p17 : lw_okq (⟨"BenchOrders$State", "takeEvents", "()I"⟩, 17) := ⟨⟨by decide +kernel, by decide +kernel⟩, List.mem_of_getElem? (i := 163) (by decide +kernel), List.mem_of_getElem? (i := 553) (by decide +kernel), List.mem_of_getElem? (i := 554) (by decide +kernel)⟩
theorem lw_p18 : lw_okq (⟨"BenchOrders$State", "clearStatus", "()V"⟩, 17) := ⟨⟨by decide +kernel, by decide +kernel⟩, List.mem_of_getElem? (i := 163) (by decide +kernel), List.mem_of_getElem? (i := 584) (by decide +kernel), List.mem_of_getElem? (i := 585) (by decide +kernel)⟩
theorem lw_p19 : lw_okq (⟨"BenchOrders$State", "tellWhenOver", "()V"⟩, 17) := ⟨⟨by decide +kernel, by decide +kernel⟩, List.mem_of_getElem? (i := 163) (by decide +kernel), List.mem_of_getElem? (i := 588) (by decide +kernel), List.mem_of_getElem? (i := 589) (by decide +kernel)⟩
theorem lw_p20 : lw_okq (⟨"BenchOrders$State", "reset", "()V"⟩, 17) := ⟨⟨by decide +kernel, by decide +kernel⟩, List.mem_of_getElem? (i := 163) (by decide +kernel), List.mem_of_getElem? (i := 592) (by decide +kernel), List.mem_of_getElem? (i := 593) (by decide +kernel)⟩
theorem lw_p21 : lw_okq (⟨"BenchOrders$State", "setByteMask", "(II)V"⟩, 17) := ⟨⟨by decide +kernel, by decide +kernel⟩, List.mem_of_getElem? (i := 163) (by decide +kernel), List.mem_of_getElem? (i := 596) (by decide +kernel), List.mem_of_getElem? (i := 597) (by decide +kernel)⟩
theorem lw_p22 : lw_okq (⟨"BenchOrders", "performOrder", "()I"⟩, 8) := ⟨⟨by decide +kernel, by decide +kernel⟩, List.mem_of_getElem? (i := 17) (by decide +kernel), List.mem_of_getElem? (i := 600) (by decide +kernel), List.mem_of_getElem? (i := 601) (by decide +kernel)⟩
theorem lw_p23 : lw_okq (⟨"BenchOrders$Tree", "findFrom", "(ILBenchOrders$Text;LBenchOrders$Words;II)I"⟩, 4) := ⟨⟨by decide +kernel, by decide +kernel⟩, List.mem_of_getElem? (i := 41) (by decide +kernel), List.mem_of_getElem? (i := 611) (by decide +kernel), List.mem_of_getElem? (i := 612) (by decide +kernel)⟩
theorem lw_p24 : lw_okq (⟨"BenchOrders$Tree", "findByWord", "(ILBenchOrders$Text;LBenchOrders$Words;II)I"⟩, 4) := ⟨⟨by decide +kernel, by decide +kernel⟩, List.mem_of_getElem? (i := 41) (by decide +kernel), List.mem_of_getElem? (i := 615) (by decide +kernel), List.mem_of_getElem? (i := 616) (by decide +kernel)⟩
theorem lw_p25 : lw_okq (⟨"BenchOrders", "tally", "(I)I"⟩, 8) := ⟨⟨by decide +kernel, by decide +kernel⟩, List.mem_of_getElem? (i := 17) (by decide +kernel), List.mem_of_getElem? (i := 729) (by decide +kernel), List.mem_of_getElem? (i := 730) (by decide +kernel)⟩
theorem lw_p26 : lw_okq (⟨"BenchOrders", "digestNode", "(JI)J"⟩, 8) := ⟨⟨by decide +kernel, by decide +kernel⟩, List.mem_of_getElem? (i := 17) (by decide +kernel), List.mem_of_getElem? (i := 739) (by decide +kernel), List.mem_of_getElem? (i := 740) (by decide +kernel)⟩
theorem lw_p27 : lw_okq (⟨"BenchOrdersModel", "refuses", "(I)I"⟩, 24) := ⟨⟨by decide +kernel, by decide +kernel⟩, List.mem_of_getElem? (i := 748) (by decide +kernel), List.mem_of_getElem? (i := 832) (by decide +kernel), List.mem_of_getElem? (i := 833) (by decide +kernel)⟩
theorem lw_p28 : lw_okq (⟨"BenchOrdersModel", "isNode", "(I)Z"⟩, 24) := ⟨⟨by decide +kernel, by decide +kernel⟩, List.mem_of_getElem? (i := 748) (by decide +kernel), List.mem_of_getElem? (i := 840) (by decide +kernel), List.mem_of_getElem? (i := 841) (by decide +kernel)⟩
theorem lw_p29 : lw_okq (⟨"BenchOrdersModel", "ofNode", "(II)I"⟩, 24) := ⟨⟨by decide +kernel, by decide +kernel⟩, List.mem_of_getElem? (i := 748) (by decide +kernel), List.mem_of_getElem? (i := 847) (by decide +kernel), List.mem_of_getElem? (i := 848) (by decide +kernel)⟩
theorem lw_p30 : lw_okq (⟨"BenchOrdersModel", "capitals", "()I"⟩, 24) := ⟨⟨by decide +kernel, by decide +kernel⟩, List.mem_of_getElem? (i := 748) (by decide +kernel), List.mem_of_getElem? (i := 851) (by decide +kernel), List.mem_of_getElem? (i := 852) (by decide +kernel)⟩
theorem lw_p31 : lw_okq (⟨"BenchOrdersModel", "hold", "()V"⟩, 24) := ⟨⟨by decide +kernel, by decide +kernel⟩, List.mem_of_getElem? (i := 748) (by decide +kernel), List.mem_of_getElem? (i := 861) (by decide +kernel), List.mem_of_getElem? (i := 862) (by decide +kernel)⟩
def lw_privs_2 : List (MethodName × Nat) := [(⟨"BenchOrders", "performCommon", "()I"⟩, 8), (⟨"BenchOrders$State", "takeEvents", "()I"⟩, 17), (⟨"BenchOrders$State", "clearStatus", "()V"⟩, 17), (⟨"BenchOrders$State", "tellWhenOver", "()V"⟩, 17), (⟨"BenchOrders$State", "reset", "()V"⟩, 17), (⟨"BenchOrders$State", "setByteMask", "(II)V"⟩, 17), (⟨"BenchOrders", "performOrder", "()I"⟩, 8), (⟨"BenchOrders$Tree", "findFrom", "(ILBenchOrders$Text;LBenchOrders$Words;II)I"⟩, 4), (⟨"BenchOrders$Tree", "findByWord", "(ILBenchOrders$Text;LBenchOrders$Words;II)I"⟩, 4), (⟨"BenchOrders", "tally", "(I)I"⟩, 8), (⟨"BenchOrders", "digestNode", "(JI)J"⟩, 8), (⟨"BenchOrdersModel", "refuses", "(I)I"⟩, 24), (⟨"BenchOrdersModel", "isNode", "(I)Z"⟩, 24), (⟨"BenchOrdersModel", "ofNode", "(II)I"⟩, 24), (⟨"BenchOrdersModel", "capitals", "()I"⟩, 24), (⟨"BenchOrdersModel", "hold", "()V"⟩, 24)]
theorem lw_r2 : ∀ q ∈ lw_privs_2, lw_okq q := List.forall_mem_cons.mpr ⟨lw_p16, List.forall_mem_cons.mpr ⟨lw_p17, List.forall_mem_cons.mpr ⟨lw_p18, List.forall_mem_cons.mpr ⟨lw_p19, List.forall_mem_cons.mpr ⟨lw_p20, List.forall_mem_cons.mpr ⟨lw_p21, List.forall_mem_cons.mpr ⟨lw_p22, List.forall_mem_cons.mpr ⟨lw_p23, List.forall_mem_cons.mpr ⟨lw_p24, List.forall_mem_cons.mpr ⟨lw_p25, List.forall_mem_cons.mpr ⟨lw_p26, List.forall_mem_cons.mpr ⟨lw_p27, List.forall_mem_cons.mpr ⟨lw_p28, List.forall_mem_cons.mpr ⟨lw_p29, List.forall_mem_cons.mpr ⟨lw_p30, List.forall_mem_cons.mpr ⟨lw_p31, fun _ h => absurd h List.not_mem_nil⟩⟩⟩⟩⟩⟩⟩⟩⟩⟩⟩⟩⟩⟩⟩⟩
theorem lw_p32 : lw_okq (⟨"BenchOrdersModel", "put", "(III)V"⟩, 24) := ⟨⟨by decide +kernel, by decide +kernel⟩, List.mem_of_getElem? (i := 748) (by decide +kernel), List.mem_of_getElem? (i := 865) (by decide +kernel), List.mem_of_getElem? (i := 866) (by decide +kernel)⟩
theorem lw_p33 : lw_okq (⟨"BenchOrdersModel", "push", "()V"⟩, 24) := ⟨⟨by decide +kernel, by decide +kernel⟩, List.mem_of_getElem? (i := 748) (by decide +kernel), List.mem_of_getElem? (i := 872) (by decide +kernel), List.mem_of_getElem? (i := 873) (by decide +kernel)⟩
theorem lw_p34 : lw_okq (⟨"BenchOrdersModel", "isKind", "(II)Z"⟩, 24) := ⟨⟨by decide +kernel, by decide +kernel⟩, List.mem_of_getElem? (i := 748) (by decide +kernel), List.mem_of_getElem? (i := 880) (by decide +kernel), List.mem_of_getElem? (i := 881) (by decide +kernel)⟩
theorem lw_p35 : lw_okq (⟨"BenchOrdersModel", "setAll", "(I)V"⟩, 24) := ⟨⟨by decide +kernel, by decide +kernel⟩, List.mem_of_getElem? (i := 748) (by decide +kernel), List.mem_of_getElem? (i := 884) (by decide +kernel), List.mem_of_getElem? (i := 885) (by decide +kernel)⟩
theorem lw_p36 : lw_okq (⟨"BenchOrdersModel", "toldOfNode", "(II)I"⟩, 24) := ⟨⟨by decide +kernel, by decide +kernel⟩, List.mem_of_getElem? (i := 748) (by decide +kernel), List.mem_of_getElem? (i := 892) (by decide +kernel), List.mem_of_getElem? (i := 893) (by decide +kernel)⟩
theorem lw_p37 : lw_okq (⟨"BenchOrdersModel", "doUnit", "()I"⟩, 24) := ⟨⟨by decide +kernel, by decide +kernel⟩, List.mem_of_getElem? (i := 748) (by decide +kernel), List.mem_of_getElem? (i := 904) (by decide +kernel), List.mem_of_getElem? (i := 905) (by decide +kernel)⟩
theorem lw_p38 : lw_okq (⟨"BenchOrdersModel", "isUnit", "()Z"⟩, 24) := ⟨⟨by decide +kernel, by decide +kernel⟩, List.mem_of_getElem? (i := 748) (by decide +kernel), List.mem_of_getElem? (i := 908) (by decide +kernel), List.mem_of_getElem? (i := 909) (by decide +kernel)⟩
theorem lw_p39 : lw_okq (⟨"BenchOrdersModel", "blanks", "()V"⟩, 24) := ⟨⟨by decide +kernel, by decide +kernel⟩, List.mem_of_getElem? (i := 748) (by decide +kernel), List.mem_of_getElem? (i := 912) (by decide +kernel), List.mem_of_getElem? (i := 913) (by decide +kernel)⟩
theorem lw_p40 : lw_okq (⟨"BenchOrdersModel", "here", "()I"⟩, 24) := ⟨⟨by decide +kernel, by decide +kernel⟩, List.mem_of_getElem? (i := 748) (by decide +kernel), List.mem_of_getElem? (i := 916) (by decide +kernel), List.mem_of_getElem? (i := 917) (by decide +kernel)⟩
theorem lw_p41 : lw_okq (⟨"BenchOrdersModel", "isHeader", "()Z"⟩, 24) := ⟨⟨by decide +kernel, by decide +kernel⟩, List.mem_of_getElem? (i := 748) (by decide +kernel), List.mem_of_getElem? (i := 920) (by decide +kernel), List.mem_of_getElem? (i := 921) (by decide +kernel)⟩
theorem lw_p42 : lw_okq (⟨"BenchOrdersModel", "isCommonWord", "()Z"⟩, 24) := ⟨⟨by decide +kernel, by decide +kernel⟩, List.mem_of_getElem? (i := 748) (by decide +kernel), List.mem_of_getElem? (i := 924) (by decide +kernel), List.mem_of_getElem? (i := 925) (by decide +kernel)⟩
theorem lw_p43 : lw_okq (⟨"BenchOrdersModel", "areWords", "()Z"⟩, 24) := ⟨⟨by decide +kernel, by decide +kernel⟩, List.mem_of_getElem? (i := 748) (by decide +kernel), List.mem_of_getElem? (i := 931) (by decide +kernel), List.mem_of_getElem? (i := 932) (by decide +kernel)⟩
theorem lw_p44 : lw_okq (⟨"BenchOrdersModel", "isWord", "()Z"⟩, 24) := ⟨⟨by decide +kernel, by decide +kernel⟩, List.mem_of_getElem? (i := 748) (by decide +kernel), List.mem_of_getElem? (i := 935) (by decide +kernel), List.mem_of_getElem? (i := 936) (by decide +kernel)⟩
theorem lw_p45 : lw_okq (⟨"BenchOrdersModel", "isFigure", "()Z"⟩, 24) := ⟨⟨by decide +kernel, by decide +kernel⟩, List.mem_of_getElem? (i := 748) (by decide +kernel), List.mem_of_getElem? (i := 939) (by decide +kernel), List.mem_of_getElem? (i := 940) (by decide +kernel)⟩
theorem lw_p46 : lw_okq (⟨"BenchOrdersModel", "isEnd", "()Z"⟩, 24) := ⟨⟨by decide +kernel, by decide +kernel⟩, List.mem_of_getElem? (i := 748) (by decide +kernel), List.mem_of_getElem? (i := 943) (by decide +kernel), List.mem_of_getElem? (i := 944) (by decide +kernel)⟩
theorem lw_p47 : lw_okq (⟨"BenchOrdersModel", "isUnitValue", "()Z"⟩, 24) := ⟨⟨by decide +kernel, by decide +kernel⟩, List.mem_of_getElem? (i := 748) (by decide +kernel), List.mem_of_getElem? (i := 947) (by decide +kernel), List.mem_of_getElem? (i := 948) (by decide +kernel)⟩
def lw_privs_3 : List (MethodName × Nat) := [(⟨"BenchOrdersModel", "put", "(III)V"⟩, 24), (⟨"BenchOrdersModel", "push", "()V"⟩, 24), (⟨"BenchOrdersModel", "isKind", "(II)Z"⟩, 24), (⟨"BenchOrdersModel", "setAll", "(I)V"⟩, 24), (⟨"BenchOrdersModel", "toldOfNode", "(II)I"⟩, 24), (⟨"BenchOrdersModel", "doUnit", "()I"⟩, 24), (⟨"BenchOrdersModel", "isUnit", "()Z"⟩, 24), (⟨"BenchOrdersModel", "blanks", "()V"⟩, 24), (⟨"BenchOrdersModel", "here", "()I"⟩, 24), (⟨"BenchOrdersModel", "isHeader", "()Z"⟩, 24), (⟨"BenchOrdersModel", "isCommonWord", "()Z"⟩, 24), (⟨"BenchOrdersModel", "areWords", "()Z"⟩, 24), (⟨"BenchOrdersModel", "isWord", "()Z"⟩, 24), (⟨"BenchOrdersModel", "isFigure", "()Z"⟩, 24), (⟨"BenchOrdersModel", "isEnd", "()Z"⟩, 24), (⟨"BenchOrdersModel", "isUnitValue", "()Z"⟩, 24)]
theorem lw_r3 : ∀ q ∈ lw_privs_3, lw_okq q := List.forall_mem_cons.mpr ⟨lw_p32, List.forall_mem_cons.mpr ⟨lw_p33, List.forall_mem_cons.mpr ⟨lw_p34, List.forall_mem_cons.mpr ⟨lw_p35, List.forall_mem_cons.mpr ⟨lw_p36, List.forall_mem_cons.mpr ⟨lw_p37, List.forall_mem_cons.mpr ⟨lw_p38, List.forall_mem_cons.mpr ⟨lw_p39, List.forall_mem_cons.mpr ⟨lw_p40, List.forall_mem_cons.mpr ⟨lw_p41, List.forall_mem_cons.mpr ⟨lw_p42, List.forall_mem_cons.mpr ⟨lw_p43, List.forall_mem_cons.mpr ⟨lw_p44, List.forall_mem_cons.mpr ⟨lw_p45, List.forall_mem_cons.mpr ⟨lw_p46, List.forall_mem_cons.mpr ⟨lw_p47, fun _ h => absurd h List.not_mem_nil⟩⟩⟩⟩⟩⟩⟩⟩⟩⟩⟩⟩⟩⟩⟩⟩
theorem lw_p48 : lw_okq (⟨"BenchOrdersModel", "isWordValue", "()Z"⟩, 24) := ⟨⟨by decide +kernel, by decide +kernel⟩, List.mem_of_getElem? (i := 748) (by decide +kernel), List.mem_of_getElem? (i := 951) (by decide +kernel), List.mem_of_getElem? (i := 952) (by decide +kernel)⟩
theorem lw_p49 : lw_okq (⟨"BenchOrdersModel", "form", "()I"⟩, 24) := ⟨⟨by decide +kernel, by decide +kernel⟩, List.mem_of_getElem? (i := 748) (by decide +kernel), List.mem_of_getElem? (i := 955) (by decide +kernel), List.mem_of_getElem? (i := 956) (by decide +kernel)⟩
theorem lw_p50 : lw_okq (⟨"BenchOrdersModel", "find", "()I"⟩, 24) := ⟨⟨by decide +kernel, by decide +kernel⟩, List.mem_of_getElem? (i := 748) (by decide +kernel), List.mem_of_getElem? (i := 959) (by decide +kernel), List.mem_of_getElem? (i := 960) (by decide +kernel)⟩
theorem lw_p51 : lw_okq (⟨"BenchOrdersModel", "pass", "(IIZ)V"⟩, 24) := ⟨⟨by decide +kernel, by decide +kernel⟩, List.mem_of_getElem? (i := 748) (by decide +kernel), List.mem_of_getElem? (i := 963) (by decide +kernel), List.mem_of_getElem? (i := 964) (by decide +kernel)⟩
theorem lw_p52 : lw_okq (⟨"BenchOrdersModel", "goesOn", "()Z"⟩, 24) := ⟨⟨by decide +kernel, by decide +kernel⟩, List.mem_of_getElem? (i := 748) (by decide +kernel), List.mem_of_getElem? (i := 967) (by decide +kernel), List.mem_of_getElem? (i := 968) (by decide +kernel)⟩
theorem lw_p53 : lw_okq (⟨"BenchOrdersModel", "isFit", "(II)Z"⟩, 24) := ⟨⟨by decide +kernel, by decide +kernel⟩, List.mem_of_getElem? (i := 748) (by decide +kernel), List.mem_of_getElem? (i := 971) (by decide +kernel), List.mem_of_getElem? (i := 972) (by decide +kernel)⟩
theorem lw_p54 : lw_okq (⟨"BenchOrdersModel", "isSame", "(III)Z"⟩, 24) := ⟨⟨by decide +kernel, by decide +kernel⟩, List.mem_of_getElem? (i := 748) (by decide +kernel), List.mem_of_getElem? (i := 975) (by decide +kernel), List.mem_of_getElem? (i := 976) (by decide +kernel)⟩
theorem lw_p55 : lw_okq (⟨"BenchOrdersModel", "doCommon", "()I"⟩, 24) := ⟨⟨by decide +kernel, by decide +kernel⟩, List.mem_of_getElem? (i := 748) (by decide +kernel), List.mem_of_getElem? (i := 979) (by decide +kernel), List.mem_of_getElem? (i := 980) (by decide +kernel)⟩
theorem lw_p56 : lw_okq (⟨"BenchOrdersModel", "addAnswer", "(I)V"⟩, 24) := ⟨⟨by decide +kernel, by decide +kernel⟩, List.mem_of_getElem? (i := 748) (by decide +kernel), List.mem_of_getElem? (i := 983) (by decide +kernel), List.mem_of_getElem? (i := 984) (by decide +kernel)⟩
theorem lw_p57 : lw_okq (⟨"BenchOrdersModel", "addFault", "(I)V"⟩, 24) := ⟨⟨by decide +kernel, by decide +kernel⟩, List.mem_of_getElem? (i := 748) (by decide +kernel), List.mem_of_getElem? (i := 987) (by decide +kernel), List.mem_of_getElem? (i := 988) (by decide +kernel)⟩
theorem lw_p58 : lw_okq (⟨"BenchOrdersModel", "sum", "()I"⟩, 24) := ⟨⟨by decide +kernel, by decide +kernel⟩, List.mem_of_getElem? (i := 748) (by decide +kernel), List.mem_of_getElem? (i := 991) (by decide +kernel), List.mem_of_getElem? (i := 992) (by decide +kernel)⟩
theorem lw_p59 : lw_okq (⟨"BenchOrdersModel", "doOver", "()V"⟩, 24) := ⟨⟨by decide +kernel, by decide +kernel⟩, List.mem_of_getElem? (i := 748) (by decide +kernel), List.mem_of_getElem? (i := 995) (by decide +kernel), List.mem_of_getElem? (i := 996) (by decide +kernel)⟩
theorem lw_p60 : lw_okq (⟨"BenchOrdersModel", "doMask", "(I)I"⟩, 24) := ⟨⟨by decide +kernel, by decide +kernel⟩, List.mem_of_getElem? (i := 748) (by decide +kernel), List.mem_of_getElem? (i := 999) (by decide +kernel), List.mem_of_getElem? (i := 1000) (by decide +kernel)⟩
theorem lw_p61 : lw_okq (⟨"BenchOrdersModel", "doNode", "(I)I"⟩, 24) := ⟨⟨by decide +kernel, by decide +kernel⟩, List.mem_of_getElem? (i := 748) (by decide +kernel), List.mem_of_getElem? (i := 1003) (by decide +kernel), List.mem_of_getElem? (i := 1004) (by decide +kernel)⟩
theorem lw_p62 : lw_okq (⟨"BenchOrdersModel", "takeFirst", "(II)I"⟩, 24) := ⟨⟨by decide +kernel, by decide +kernel⟩, List.mem_of_getElem? (i := 748) (by decide +kernel), List.mem_of_getElem? (i := 1015) (by decide +kernel), List.mem_of_getElem? (i := 1016) (by decide +kernel)⟩
theorem lw_p63 : lw_okq (⟨"BenchOrdersModel", "removeAt", "(III)V"⟩, 24) := ⟨⟨by decide +kernel, by decide +kernel⟩, List.mem_of_getElem? (i := 748) (by decide +kernel), List.mem_of_getElem? (i := 1019) (by decide +kernel), List.mem_of_getElem? (i := 1020) (by decide +kernel)⟩
def lw_privs_4 : List (MethodName × Nat) := [(⟨"BenchOrdersModel", "isWordValue", "()Z"⟩, 24), (⟨"BenchOrdersModel", "form", "()I"⟩, 24), (⟨"BenchOrdersModel", "find", "()I"⟩, 24), (⟨"BenchOrdersModel", "pass", "(IIZ)V"⟩, 24), (⟨"BenchOrdersModel", "goesOn", "()Z"⟩, 24), (⟨"BenchOrdersModel", "isFit", "(II)Z"⟩, 24), (⟨"BenchOrdersModel", "isSame", "(III)Z"⟩, 24), (⟨"BenchOrdersModel", "doCommon", "()I"⟩, 24), (⟨"BenchOrdersModel", "addAnswer", "(I)V"⟩, 24), (⟨"BenchOrdersModel", "addFault", "(I)V"⟩, 24), (⟨"BenchOrdersModel", "sum", "()I"⟩, 24), (⟨"BenchOrdersModel", "doOver", "()V"⟩, 24), (⟨"BenchOrdersModel", "doMask", "(I)I"⟩, 24), (⟨"BenchOrdersModel", "doNode", "(I)I"⟩, 24), (⟨"BenchOrdersModel", "takeFirst", "(II)I"⟩, 24), (⟨"BenchOrdersModel", "removeAt", "(III)V"⟩, 24)]
theorem lw_r4 : ∀ q ∈ lw_privs_4, lw_okq q := List.forall_mem_cons.mpr ⟨lw_p48, List.forall_mem_cons.mpr ⟨lw_p49, List.forall_mem_cons.mpr ⟨lw_p50, List.forall_mem_cons.mpr ⟨lw_p51, List.forall_mem_cons.mpr ⟨lw_p52, List.forall_mem_cons.mpr ⟨lw_p53, List.forall_mem_cons.mpr ⟨lw_p54, List.forall_mem_cons.mpr ⟨lw_p55, List.forall_mem_cons.mpr ⟨lw_p56, List.forall_mem_cons.mpr ⟨lw_p57, List.forall_mem_cons.mpr ⟨lw_p58, List.forall_mem_cons.mpr ⟨lw_p59, List.forall_mem_cons.mpr ⟨lw_p60, List.forall_mem_cons.mpr ⟨lw_p61, List.forall_mem_cons.mpr ⟨lw_p62, List.forall_mem_cons.mpr ⟨lw_p63, fun _ h => absurd h List.not_mem_nil⟩⟩⟩⟩⟩⟩⟩⟩⟩⟩⟩⟩⟩⟩⟩⟩
theorem lw_p64 : lw_okq (⟨"BenchOrdersModel", "stateOf", "(I)I"⟩, 24) := ⟨⟨by decide +kernel, by decide +kernel⟩, List.mem_of_getElem? (i := 748) (by decide +kernel), List.mem_of_getElem? (i := 1047) (by decide +kernel), List.mem_of_getElem? (i := 1048) (by decide +kernel)⟩
theorem lw_p65 : lw_okq (⟨"BenchOrdersModel", "rowAt", "(III)I"⟩, 24) := ⟨⟨by decide +kernel, by decide +kernel⟩, List.mem_of_getElem? (i := 748) (by decide +kernel), List.mem_of_getElem? (i := 1055) (by decide +kernel), List.mem_of_getElem? (i := 1056) (by decide +kernel)⟩
theorem lw_p66 : lw_okq (⟨"BenchOrdersModel", "toldOf", "(I)I"⟩, 24) := ⟨⟨by decide +kernel, by decide +kernel⟩, List.mem_of_getElem? (i := 748) (by decide +kernel), List.mem_of_getElem? (i := 1079) (by decide +kernel), List.mem_of_getElem? (i := 1080) (by decide +kernel)⟩
theorem lw_p67 : lw_okq (⟨"BenchOrdersModel", "mix", "(I)V"⟩, 24) := ⟨⟨by decide +kernel, by decide +kernel⟩, List.mem_of_getElem? (i := 748) (by decide +kernel), List.mem_of_getElem? (i := 1088) (by decide +kernel), List.mem_of_getElem? (i := 1089) (by decide +kernel)⟩
theorem lw_p68 : lw_okq (⟨"BenchOrdersModel", "mixRow", "(II)V"⟩, 24) := ⟨⟨by decide +kernel, by decide +kernel⟩, List.mem_of_getElem? (i := 748) (by decide +kernel), List.mem_of_getElem? (i := 1093) (by decide +kernel), List.mem_of_getElem? (i := 1094) (by decide +kernel)⟩
def lw_privs_5 : List (MethodName × Nat) := [(⟨"BenchOrdersModel", "stateOf", "(I)I"⟩, 24), (⟨"BenchOrdersModel", "rowAt", "(III)I"⟩, 24), (⟨"BenchOrdersModel", "toldOf", "(I)I"⟩, 24), (⟨"BenchOrdersModel", "mix", "(I)V"⟩, 24), (⟨"BenchOrdersModel", "mixRow", "(II)V"⟩, 24)]
theorem lw_r5 : ∀ q ∈ lw_privs_5, lw_okq q := List.forall_mem_cons.mpr ⟨lw_p64, List.forall_mem_cons.mpr ⟨lw_p65, List.forall_mem_cons.mpr ⟨lw_p66, List.forall_mem_cons.mpr ⟨lw_p67, List.forall_mem_cons.mpr ⟨lw_p68, fun _ h => absurd h List.not_mem_nil⟩⟩⟩⟩⟩
def lw_privs : List (MethodName × Nat) := lw_privs_1 ++ (lw_privs_2 ++ (lw_privs_3 ++ (lw_privs_4 ++ (lw_privs_5))))
def lw_tbl : List Cond := k2_sels lw_privs ++ tables_1
theorem lw_privs_ok : ∀ q ∈ lw_privs, lw_okq q := by
  show ∀ q ∈ lw_privs_1 ++ (lw_privs_2 ++ (lw_privs_3 ++ (lw_privs_4 ++ (lw_privs_5)))), lw_okq q
  exact List.forall_mem_append.mpr ⟨lw_r1, List.forall_mem_append.mpr ⟨lw_r2, List.forall_mem_append.mpr ⟨lw_r3, List.forall_mem_append.mpr ⟨lw_r4, lw_r5⟩⟩⟩⟩
/-- the words that go from a caller to its callees -/
def tb : List Cond := lw_tbl.filter goodWord
theorem tbm {w : Cond} (i : Nat) (h : lw_tbl[i]? = some w) (g : goodWord w = true) : w ∈ tb := List.mem_filter.mpr ⟨List.mem_of_getElem? h, g⟩
theorem tb_good : ∀ w ∈ tb, w ∈ tb ∧ ((w.onTables && w.keeps) = true ∨ ∃ ty, w = .arrayClass ty) := fun w h => ⟨h, good_of_word (List.mem_filter.mp h).2⟩
def isNest : Cond → Bool
  | .methodLinkNest .. => true
  | _ => false
end
section
def RX0 : String := "BenchOrders$History"
def TX0 : u_T := fun k => match k with
  | 0 => ("BenchOrders$History", "kept", "[LBenchOrders$State;", true)
  | _ => ("BenchOrders$History", "count", "I", false)
def tyX0 : Nat → FieldType := fun k => match k with
  | 0 => .array (.object "BenchOrders$State")
  | _ => .int
theorem nmX0 : ∀ a, a < 2 → ∀ b, b < 2 → a ≠ b → (TX0 a).2.1 ≠ (TX0 b).2.1 := by decide +kernel
theorem tyX0_ok : ∀ k, k < 2 → parseFieldDescriptor (TX0 k).2.2.1 = some (tyX0 k) := by decide +kernel
abbrev cX0_init : ByteArray := prog_2_method_1_code
def yX0_init : MethodName := ⟨RX0, "<init>", "()V"⟩
abbrev cX0_keep : ByteArray := prog_2_method_2_code
def yX0_keep : MethodName := ⟨RX0, "keep", "(LBenchOrders$State;)V"⟩
abbrev cX0_restore : ByteArray := prog_2_method_3_code
def yX0_restore : MethodName := ⟨RX0, "restore", "(LBenchOrders$State;)V"⟩
abbrev cX0_dropOldest : ByteArray := prog_2_method_4_code
def yX0_dropOldest : MethodName := ⟨RX0, "dropOldest", "()V"⟩
def RX1 : String := "BenchOrders$Node"
def TX1 : u_T := fun k => match k with
  | 0 => ("BenchOrders$Node", "parent", "I", false)
  | 1 => ("BenchOrders$Node", "kind", "I", false)
  | 2 => ("BenchOrders$Node", "most", "I", false)
  | 3 => ("BenchOrders$Node", "leftOut", "I", false)
  | 4 => ("BenchOrders$Node", "shortLength", "I", false)
  | 5 => ("BenchOrders$Node", "longLength", "I", false)
  | _ => ("BenchOrders$Node", "capitals", "[B", true)
def tyX1 : Nat → FieldType := fun k => match k with
  | 0 => .int
  | 1 => .int
  | 2 => .int
  | 3 => .int
  | 4 => .int
  | 5 => .int
  | _ => .array .byte
theorem nmX1 : ∀ a, a < 7 → ∀ b, b < 7 → a ≠ b → (TX1 a).2.1 ≠ (TX1 b).2.1 := by decide +kernel
theorem tyX1_ok : ∀ k, k < 7 → parseFieldDescriptor (TX1 k).2.2.1 = some (tyX1 k) := by decide +kernel
abbrev cX1_init : ByteArray := prog_3_method_1_code
def yX1_init : MethodName := ⟨RX1, "<init>", "()V"⟩
abbrev cX1_takeName : ByteArray := prog_3_method_2_code
def yX1_takeName : MethodName := ⟨RX1, "takeName", "(LBenchOrders$Text;)V"⟩
abbrev cX1_isFitBy : ByteArray := prog_3_method_3_code
def yX1_isFitBy : MethodName := ⟨RX1, "isFitBy", "(LBenchOrders$Text;III)Z"⟩
def RX2 : String := "BenchOrders$Row"
def TX2 : u_T := fun k => match k with
  | 0 => ("BenchOrders$Row", "items", "[I", true)
  | _ => ("BenchOrders$Row", "count", "I", false)
def tyX2 : Nat → FieldType := fun k => match k with
  | 0 => .array .int
  | _ => .int
theorem nmX2 : ∀ a, a < 2 → ∀ b, b < 2 → a ≠ b → (TX2 a).2.1 ≠ (TX2 b).2.1 := by decide +kernel
theorem tyX2_ok : ∀ k, k < 2 → parseFieldDescriptor (TX2 k).2.2.1 = some (tyX2 k) := by decide +kernel
abbrev cX2_init : ByteArray := prog_4_method_1_code
def yX2_init : MethodName := ⟨RX2, "<init>", "(I)V"⟩
abbrev cX2_add : ByteArray := prog_4_method_2_code
def yX2_add : MethodName := ⟨RX2, "add", "(I)Z"⟩
abbrev cX2_at : ByteArray := prog_4_method_3_code
def yX2_at : MethodName := ⟨RX2, "at", "(I)I"⟩
abbrev cX2_removeAt : ByteArray := prog_4_method_4_code
def yX2_removeAt : MethodName := ⟨RX2, "removeAt", "(I)I"⟩
abbrev cX2_changeLast : ByteArray := prog_4_method_5_code
def yX2_changeLast : MethodName := ⟨RX2, "changeLast", "(I)V"⟩
abbrev cX2_copyFrom : ByteArray := prog_4_method_6_code
def yX2_copyFrom : MethodName := ⟨RX2, "copyFrom", "(LBenchOrders$Row;)V"⟩
abbrev cX2_digestFrom : ByteArray := prog_4_method_7_code
def yX2_digestFrom : MethodName := ⟨RX2, "digestFrom", "(J)J"⟩
def RX3 : String := "BenchOrders$State"
def TX3 : u_T := fun k => match k with
  | 0 => ("BenchOrders$State", "nodes", "I", false)
  | 1 => ("BenchOrders$State", "low", "[I", true)
  | 2 => ("BenchOrders$State", "high", "[I", true)
  | 3 => ("BenchOrders$State", "timesDone", "[I", true)
  | 4 => ("BenchOrders$State", "numbers", "[I", true)
  | 5 => ("BenchOrders$State", "answers", "LBenchOrders$Row;", true)
  | 6 => ("BenchOrders$State", "faults", "LBenchOrders$Row;", true)
  | 7 => ("BenchOrders$State", "pending", "LBenchOrders$Row;", true)
  | 8 => ("BenchOrders$State", "events", "I", false)
  | 9 => ("BenchOrders$State", "eventMask", "I", false)
  | 10 => ("BenchOrders$State", "serviceMask", "I", false)
  | 11 => ("BenchOrders$State", "conditions", "I", false)
  | 12 => ("BenchOrders$State", "edges", "I", false)
  | 13 => ("BenchOrders$State", "rises", "I", false)
  | 14 => ("BenchOrders$State", "falls", "I", false)
  | 15 => ("BenchOrders$State", "enable", "I", false)
  | _ => ("BenchOrders$State", "isWaiting", "Z", false)
def tyX3 : Nat → FieldType := fun k => match k with
  | 0 => .int
  | 1 => .array .int
  | 2 => .array .int
  | 3 => .array .int
  | 4 => .array .int
  | 5 => .object "BenchOrders$Row"
  | 6 => .object "BenchOrders$Row"
  | 7 => .object "BenchOrders$Row"
  | 8 => .int
  | 9 => .int
  | 10 => .int
  | 11 => .int
  | 12 => .int
  | 13 => .int
  | 14 => .int
  | 15 => .int
  | _ => .boolean
theorem nmX3 : ∀ a, a < 17 → ∀ b, b < 17 → a ≠ b → (TX3 a).2.1 ≠ (TX3 b).2.1 := by decide +kernel
theorem tyX3_ok : ∀ k, k < 17 → parseFieldDescriptor (TX3 k).2.2.1 = some (tyX3 k) := by decide +kernel
abbrev cX3_init : ByteArray := prog_5_method_1_code
def yX3_init : MethodName := ⟨RX3, "<init>", "()V"⟩
abbrev cX3_copyFrom : ByteArray := prog_5_method_2_code
def yX3_copyFrom : MethodName := ⟨RX3, "copyFrom", "(LBenchOrders$State;)V"⟩
abbrev cX3_addNode : ByteArray := prog_5_method_3_code
def yX3_addNode : MethodName := ⟨RX3, "addNode", "(I)V"⟩
abbrev cX3_lowerNumbers : ByteArray := prog_5_method_4_code
def yX3_lowerNumbers : MethodName := ⟨RX3, "lowerNumbers", "(I)V"⟩
abbrev cX3_numberOf : ByteArray := prog_5_method_5_code
def yX3_numberOf : MethodName := ⟨RX3, "numberOf", "(II)I"⟩
abbrev cX3_putNumber : ByteArray := prog_5_method_6_code
def yX3_putNumber : MethodName := ⟨RX3, "putNumber", "(III)V"⟩
abbrev cX3_setNumber : ByteArray := prog_5_method_7_code
def yX3_setNumber : MethodName := ⟨RX3, "setNumber", "(III)V"⟩
abbrev cX3_act : ByteArray := prog_5_method_8_code
def yX3_act : MethodName := ⟨RX3, "act", "(IZ)V"⟩
abbrev cX3_finish : ByteArray := prog_5_method_9_code
def yX3_finish : MethodName := ⟨RX3, "finish", "(I)V"⟩
abbrev cX3_raise : ByteArray := prog_5_method_10_code
def yX3_raise : MethodName := ⟨RX3, "raise", "(I)V"⟩
abbrev cX3_eventOf : ByteArray := prog_5_method_11_code
def yX3_eventOf : MethodName := ⟨RX3, "eventOf", "(I)I"⟩
abbrev cX3_reply : ByteArray := prog_5_method_12_code
def yX3_reply : MethodName := ⟨RX3, "reply", "(I)V"⟩
abbrev cX3_commonAnswer : ByteArray := prog_5_method_13_code
def yX3_commonAnswer : MethodName := ⟨RX3, "commonAnswer", "(I)I"⟩
abbrev cX3_takeEvents : ByteArray := prog_5_method_14_code
def yX3_takeEvents : MethodName := ⟨RX3, "takeEvents", "()I"⟩
abbrev cX3_obeyCommon : ByteArray := prog_5_method_15_code
def yX3_obeyCommon : MethodName := ⟨RX3, "obeyCommon", "(II)V"⟩
abbrev cX3_clearStatus : ByteArray := prog_5_method_16_code
def yX3_clearStatus : MethodName := ⟨RX3, "clearStatus", "()V"⟩
abbrev cX3_tellWhenOver : ByteArray := prog_5_method_17_code
def yX3_tellWhenOver : MethodName := ⟨RX3, "tellWhenOver", "()V"⟩
abbrev cX3_reset : ByteArray := prog_5_method_18_code
def yX3_reset : MethodName := ⟨RX3, "reset", "()V"⟩
abbrev cX3_setByteMask : ByteArray := prog_5_method_19_code
def yX3_setByteMask : MethodName := ⟨RX3, "setByteMask", "(II)V"⟩
abbrev cX3_turnCondition : ByteArray := prog_5_method_20_code
def yX3_turnCondition : MethodName := ⟨RX3, "turnCondition", "(I)V"⟩
abbrev cX3_changeMask : ByteArray := prog_5_method_21_code
def yX3_changeMask : MethodName := ⟨RX3, "changeMask", "(II)I"⟩
abbrev cX3_sum : ByteArray := prog_5_method_22_code
def yX3_sum : MethodName := ⟨RX3, "sum", "()I"⟩
abbrev cX3_reading : ByteArray := prog_5_method_23_code
def yX3_reading : MethodName := ⟨RX3, "reading", "(I)I"⟩
def RX4 : String := "BenchOrders$Text"
def TX4 : u_T := fun k => match k with
  | 0 => ("BenchOrders$Text", "bytes", "[B", true)
  | _ => ("BenchOrders$Text", "length", "I", false)
def tyX4 : Nat → FieldType := fun k => match k with
  | 0 => .array .byte
  | _ => .int
theorem nmX4 : ∀ a, a < 2 → ∀ b, b < 2 → a ≠ b → (TX4 a).2.1 ≠ (TX4 b).2.1 := by decide +kernel
theorem tyX4_ok : ∀ k, k < 2 → parseFieldDescriptor (TX4 k).2.2.1 = some (tyX4 k) := by decide +kernel
abbrev cX4_init : ByteArray := prog_6_method_1_code
def yX4_init : MethodName := ⟨RX4, "<init>", "()V"⟩
abbrev cX4_append : ByteArray := prog_6_method_2_code
def yX4_append : MethodName := ⟨RX4, "append", "(I)V"⟩
abbrev cX4_byteAt : ByteArray := prog_6_method_3_code
def yX4_byteAt : MethodName := ⟨RX4, "byteAt", "(I)I"⟩
abbrev cX4_capitalAt : ByteArray := prog_6_method_4_code
def yX4_capitalAt : MethodName := ⟨RX4, "capitalAt", "(I)I"⟩
abbrev cX4_pastLetters : ByteArray := prog_6_method_5_code
def yX4_pastLetters : MethodName := ⟨RX4, "pastLetters", "(I)I"⟩
abbrev cX4_pastCapitals : ByteArray := prog_6_method_6_code
def yX4_pastCapitals : MethodName := ⟨RX4, "pastCapitals", "(I)I"⟩
abbrev cX4_pastBlanks : ByteArray := prog_6_method_7_code
def yX4_pastBlanks : MethodName := ⟨RX4, "pastBlanks", "(I)I"⟩
abbrev cX4_isName : ByteArray := prog_6_method_8_code
def yX4_isName : MethodName := ⟨RX4, "isName", "()Z"⟩
abbrev cX4_spells : ByteArray := prog_6_method_9_code
def yX4_spells : MethodName := ⟨RX4, "spells", "(IILjava/lang/String;)Z"⟩
def RX5 : String := "BenchOrders$Tree"
def TX5 : u_T := fun k => match k with
  | 0 => ("BenchOrders$Tree", "nodes", "[LBenchOrders$Node;", true)
  | 1 => ("BenchOrders$Tree", "deadEnds", "[I", true)
  | 2 => ("BenchOrders$Tree", "count", "I", false)
  | _ => ("BenchOrders$Tree", "suffix", "I", false)
def tyX5 : Nat → FieldType := fun k => match k with
  | 0 => .array (.object "BenchOrders$Node")
  | 1 => .array .int
  | 2 => .int
  | _ => .int
theorem nmX5 : ∀ a, a < 4 → ∀ b, b < 4 → a ≠ b → (TX5 a).2.1 ≠ (TX5 b).2.1 := by decide +kernel
theorem tyX5_ok : ∀ k, k < 4 → parseFieldDescriptor (TX5 k).2.2.1 = some (tyX5 k) := by decide +kernel
abbrev cX5_init : ByteArray := prog_7_method_1_code
def yX5_init : MethodName := ⟨RX5, "<init>", "()V"⟩
abbrev cX5_find : ByteArray := prog_7_method_2_code
def yX5_find : MethodName := ⟨RX5, "find", "(LBenchOrders$Text;LBenchOrders$Words;I)I"⟩
abbrev cX5_findFrom : ByteArray := prog_7_method_3_code
def yX5_findFrom : MethodName := ⟨RX5, "findFrom", "(ILBenchOrders$Text;LBenchOrders$Words;II)I"⟩
abbrev cX5_findByWord : ByteArray := prog_7_method_4_code
def yX5_findByWord : MethodName := ⟨RX5, "findByWord", "(ILBenchOrders$Text;LBenchOrders$Words;II)I"⟩
def RX6 : String := "BenchOrders$Unit"
def TX6 : u_T := fun k => match k with
  | 0 => ("BenchOrders$Unit", "words", "LBenchOrders$Words;", true)
  | 1 => ("BenchOrders$Unit", "at", "I", false)
  | 2 => ("BenchOrders$Unit", "branchCount", "I", false)
  | 3 => ("BenchOrders$Unit", "isCommon", "Z", false)
  | 4 => ("BenchOrders$Unit", "commonStart", "I", false)
  | 5 => ("BenchOrders$Unit", "commonEnd", "I", false)
  | 6 => ("BenchOrders$Unit", "isQuestion", "Z", false)
  | 7 => ("BenchOrders$Unit", "hasValue", "Z", false)
  | _ => ("BenchOrders$Unit", "number", "I", false)
def tyX6 : Nat → FieldType := fun k => match k with
  | 0 => .object "BenchOrders$Words"
  | 1 => .int
  | 2 => .int
  | 3 => .boolean
  | 4 => .int
  | 5 => .int
  | 6 => .boolean
  | 7 => .boolean
  | _ => .int
theorem nmX6 : ∀ a, a < 9 → ∀ b, b < 9 → a ≠ b → (TX6 a).2.1 ≠ (TX6 b).2.1 := by decide +kernel
theorem tyX6_ok : ∀ k, k < 9 → parseFieldDescriptor (TX6 k).2.2.1 = some (tyX6 k) := by decide +kernel
abbrev cX6_init : ByteArray := prog_8_method_1_code
def yX6_init : MethodName := ⟨RX6, "<init>", "()V"⟩
abbrev cX6_startMessage : ByteArray := prog_8_method_2_code
def yX6_startMessage : MethodName := ⟨RX6, "startMessage", "()V"⟩
abbrev cX6_keepBranch : ByteArray := prog_8_method_3_code
def yX6_keepBranch : MethodName := ⟨RX6, "keepBranch", "()V"⟩
abbrev cX6_passSemicolon : ByteArray := prog_8_method_4_code
def yX6_passSemicolon : MethodName := ⟨RX6, "passSemicolon", "(LBenchOrders$Text;)Z"⟩
abbrev cX6_readRowAlone : ByteArray := prog_8_method_5_code
def yX6_readRowAlone : MethodName := ⟨RX6, "readRowAlone", "(LBenchOrders$Text;)Z"⟩
abbrev cX6_read : ByteArray := prog_8_method_6_code
def yX6_read : MethodName := ⟨RX6, "read", "(LBenchOrders$Text;)Z"⟩
abbrev cX6_commonWord : ByteArray := prog_8_method_7_code
def yX6_commonWord : MethodName := ⟨RX6, "commonWord", "(LBenchOrders$Text;)I"⟩
abbrev cX6_valueFault : ByteArray := prog_8_method_8_code
def yX6_valueFault : MethodName := ⟨RX6, "valueFault", "(Z)I"⟩
abbrev cX6_readCommonHeader : ByteArray := prog_8_method_9_code
def yX6_readCommonHeader : MethodName := ⟨RX6, "readCommonHeader", "(LBenchOrders$Text;)Z"⟩
abbrev cX6_readWordsHeader : ByteArray := prog_8_method_10_code
def yX6_readWordsHeader : MethodName := ⟨RX6, "readWordsHeader", "(LBenchOrders$Text;)Z"⟩
abbrev cX6_readWords : ByteArray := prog_8_method_11_code
def yX6_readWords : MethodName := ⟨RX6, "readWords", "(LBenchOrders$Text;)Z"⟩
abbrev cX6_readWord : ByteArray := prog_8_method_12_code
def yX6_readWord : MethodName := ⟨RX6, "readWord", "(LBenchOrders$Text;)Z"⟩
abbrev cX6_readBehindHeader : ByteArray := prog_8_method_13_code
def yX6_readBehindHeader : MethodName := ⟨RX6, "readBehindHeader", "(LBenchOrders$Text;)Z"⟩
abbrev cX6_isUnitEnd : ByteArray := prog_8_method_14_code
def yX6_isUnitEnd : MethodName := ⟨RX6, "isUnitEnd", "(LBenchOrders$Text;)Z"⟩
abbrev cX6_readValue : ByteArray := prog_8_method_15_code
def yX6_readValue : MethodName := ⟨RX6, "readValue", "(LBenchOrders$Text;)Z"⟩
abbrev cX6_readSwitch : ByteArray := prog_8_method_16_code
def yX6_readSwitch : MethodName := ⟨RX6, "readSwitch", "(LBenchOrders$Text;)Z"⟩
abbrev cX6_readNumber : ByteArray := prog_8_method_17_code
def yX6_readNumber : MethodName := ⟨RX6, "readNumber", "(LBenchOrders$Text;)Z"⟩
def RX7 : String := "BenchOrders$Words"
def TX7 : u_T := fun k => match k with
  | 0 => ("BenchOrders$Words", "starts", "[I", true)
  | 1 => ("BenchOrders$Words", "lengths", "[I", true)
  | 2 => ("BenchOrders$Words", "figures", "[I", true)
  | _ => ("BenchOrders$Words", "count", "I", false)
def tyX7 : Nat → FieldType := fun k => match k with
  | 0 => .array .int
  | 1 => .array .int
  | 2 => .array .int
  | _ => .int
theorem nmX7 : ∀ a, a < 4 → ∀ b, b < 4 → a ≠ b → (TX7 a).2.1 ≠ (TX7 b).2.1 := by decide +kernel
theorem tyX7_ok : ∀ k, k < 4 → parseFieldDescriptor (TX7 k).2.2.1 = some (tyX7 k) := by decide +kernel
abbrev cX7_init : ByteArray := prog_9_method_1_code
def yX7_init : MethodName := ⟨RX7, "<init>", "()V"⟩
abbrev cX7_add : ByteArray := prog_9_method_2_code
def yX7_add : MethodName := ⟨RX7, "add", "(III)Z"⟩
def RX8 : String := "BenchOrders"
def TX8 : u_T := fun k => match k with
  | 0 => ("BenchOrders", "text", "LBenchOrders$Text;", true)
  | 1 => ("BenchOrders", "tree", "LBenchOrders$Tree;", true)
  | 2 => ("BenchOrders", "unit", "LBenchOrders$Unit;", true)
  | 3 => ("BenchOrders", "now", "LBenchOrders$State;", true)
  | 4 => ("BenchOrders", "history", "LBenchOrders$History;", true)
  | 5 => ("BenchOrders", "badCalls", "I", false)
  | 6 => ("BenchOrders", "noCalls", "I", false)
  | _ => ("BenchOrders", "fullCalls", "I", false)
def tyX8 : Nat → FieldType := fun k => match k with
  | 0 => .object "BenchOrders$Text"
  | 1 => .object "BenchOrders$Tree"
  | 2 => .object "BenchOrders$Unit"
  | 3 => .object "BenchOrders$State"
  | 4 => .object "BenchOrders$History"
  | 5 => .int
  | 6 => .int
  | _ => .int
theorem nmX8 : ∀ a, a < 8 → ∀ b, b < 8 → a ≠ b → (TX8 a).2.1 ≠ (TX8 b).2.1 := by decide +kernel
theorem tyX8_ok : ∀ k, k < 8 → parseFieldDescriptor (TX8 k).2.2.1 = some (tyX8 k) := by decide +kernel
abbrev cX8_init : ByteArray := prog_1_method_1_code
def yX8_init : MethodName := ⟨RX8, "<init>", "()V"⟩
abbrev cX8_node : ByteArray := prog_1_method_2_code
def yX8_node : MethodName := ⟨RX8, "node", "(IIII)I"⟩
abbrev cX8_range : ByteArray := prog_1_method_3_code
def yX8_range : MethodName := ⟨RX8, "range", "(III)I"⟩
abbrev cX8_of : ByteArray := prog_1_method_4_code
def yX8_of : MethodName := ⟨RX8, "of", "(II)I"⟩
abbrev cX8_value : ByteArray := prog_1_method_5_code
def yX8_value : MethodName := ⟨RX8, "value", "(II)I"⟩
abbrev cX8_type : ByteArray := prog_1_method_6_code
def yX8_type : MethodName := ⟨RX8, "type", "(I)I"⟩
abbrev cX8_clear : ByteArray := prog_1_method_7_code
def yX8_clear : MethodName := ⟨RX8, "clear", "()I"⟩
abbrev cX8_sends : ByteArray := prog_1_method_8_code
def yX8_sends : MethodName := ⟨RX8, "sends", "()I"⟩
abbrev cX8_finds : ByteArray := prog_1_method_9_code
def yX8_finds : MethodName := ⟨RX8, "finds", "()I"⟩
abbrev cX8_answer : ByteArray := prog_1_method_10_code
def yX8_answer : MethodName := ⟨RX8, "answer", "()I"⟩
abbrev cX8_fault : ByteArray := prog_1_method_11_code
def yX8_fault : MethodName := ⟨RX8, "fault", "()I"⟩
abbrev cX8_condition : ByteArray := prog_1_method_12_code
def yX8_condition : MethodName := ⟨RX8, "condition", "(II)I"⟩
abbrev cX8_masks : ByteArray := prog_1_method_13_code
def yX8_masks : MethodName := ⟨RX8, "masks", "(II)I"⟩
abbrev cX8_edges : ByteArray := prog_1_method_14_code
def yX8_edges : MethodName := ⟨RX8, "edges", "()I"⟩
abbrev cX8_finishes : ByteArray := prog_1_method_15_code
def yX8_finishes : MethodName := ⟨RX8, "finishes", "(I)I"⟩
abbrev cX8_state : ByteArray := prog_1_method_16_code
def yX8_state : MethodName := ⟨RX8, "state", "(I)I"⟩
abbrev cX8_answers : ByteArray := prog_1_method_17_code
def yX8_answers : MethodName := ⟨RX8, "answers", "(I)I"⟩
abbrev cX8_faults : ByteArray := prog_1_method_18_code
def yX8_faults : MethodName := ⟨RX8, "faults", "(I)I"⟩
abbrev cX8_pending : ByteArray := prog_1_method_19_code
def yX8_pending : MethodName := ⟨RX8, "pending", "(I)I"⟩
abbrev cX8_back : ByteArray := prog_1_method_20_code
def yX8_back : MethodName := ⟨RX8, "back", "()I"⟩
abbrev cX8_told : ByteArray := prog_1_method_21_code
def yX8_told : MethodName := ⟨RX8, "told", "(I)I"⟩
abbrev cX8_digest : ByteArray := prog_1_method_22_code
def yX8_digest : MethodName := ⟨RX8, "digest", "()J"⟩
abbrev cX8_refuse : ByteArray := prog_1_method_23_code
def yX8_refuse : MethodName := ⟨RX8, "refuse", "(I)I"⟩
abbrev cX8_tally : ByteArray := prog_1_method_24_code
def yX8_tally : MethodName := ⟨RX8, "tally", "(I)I"⟩
abbrev cX8_digestNode : ByteArray := prog_1_method_25_code
def yX8_digestNode : MethodName := ⟨RX8, "digestNode", "(JI)J"⟩
abbrev cX8_nodeReading : ByteArray := prog_1_method_26_code
def yX8_nodeReading : MethodName := ⟨RX8, "nodeReading", "(II)I"⟩
abbrev cX8_isNode : ByteArray := prog_1_method_27_code
def yX8_isNode : MethodName := ⟨RX8, "isNode", "(I)Z"⟩
abbrev cX8_isParent : ByteArray := prog_1_method_28_code
def yX8_isParent : MethodName := ⟨RX8, "isParent", "(I)Z"⟩
abbrev cX8_isValueNode : ByteArray := prog_1_method_29_code
def yX8_isValueNode : MethodName := ⟨RX8, "isValueNode", "(I)Z"⟩
abbrev cX8_performCommon : ByteArray := prog_1_method_30_code
def yX8_performCommon : MethodName := ⟨RX8, "performCommon", "()I"⟩
abbrev cX8_performOrder : ByteArray := prog_1_method_31_code
def yX8_performOrder : MethodName := ⟨RX8, "performOrder", "()I"⟩
abbrev cX8_hasForm : ByteArray := prog_1_method_32_code
def yX8_hasForm : MethodName := ⟨RX8, "hasForm", "(IZ)Z"⟩
abbrev cX8_isWithin : ByteArray := prog_1_method_33_code
def yX8_isWithin : MethodName := ⟨RX8, "isWithin", "(III)Z"⟩
abbrev cX8_isCapital : ByteArray := prog_1_method_34_code
def yX8_isCapital : MethodName := ⟨RX8, "isCapital", "(I)Z"⟩
abbrev cX8_isSmall : ByteArray := prog_1_method_35_code
def yX8_isSmall : MethodName := ⟨RX8, "isSmall", "(I)Z"⟩
abbrev cX8_isLetter : ByteArray := prog_1_method_36_code
def yX8_isLetter : MethodName := ⟨RX8, "isLetter", "(I)Z"⟩
abbrev cX8_isFigure : ByteArray := prog_1_method_37_code
def yX8_isFigure : MethodName := ⟨RX8, "isFigure", "(I)Z"⟩
def RX9 : String := "BenchOrdersModel"
def TX9 : u_T := fun k => match k with
  | 0 => ("BenchOrdersModel", "now", "[I", true)
  | 1 => ("BenchOrdersModel", "held", "[I", true)
  | 2 => ("BenchOrdersModel", "past", "[I", true)
  | 3 => ("BenchOrdersModel", "pasts", "I", false)
  | 4 => ("BenchOrdersModel", "refused", "[I", true)
  | 5 => ("BenchOrdersModel", "text", "[I", true)
  | 6 => ("BenchOrdersModel", "typed", "I", false)
  | 7 => ("BenchOrdersModel", "wordAt", "[I", true)
  | 8 => ("BenchOrdersModel", "wordSize", "[I", true)
  | 9 => ("BenchOrdersModel", "wordFigure", "[I", true)
  | 10 => ("BenchOrdersModel", "words", "I", false)
  | 11 => ("BenchOrdersModel", "passed", "[I", true)
  | 12 => ("BenchOrdersModel", "gone", "[I", true)
  | 13 => ("BenchOrdersModel", "fits", "[Z", true)
  | 14 => ("BenchOrdersModel", "child", "[I", true)
  | 15 => ("BenchOrdersModel", "deep", "I", false)
  | 16 => ("BenchOrdersModel", "at", "I", false)
  | 17 => ("BenchOrdersModel", "isCommon", "Z", false)
  | 18 => ("BenchOrdersModel", "common", "I", false)
  | 19 => ("BenchOrdersModel", "isQuestion", "Z", false)
  | 20 => ("BenchOrdersModel", "hasValue", "Z", false)
  | 21 => ("BenchOrdersModel", "unitValue", "I", false)
  | 22 => ("BenchOrdersModel", "branch", "I", false)
  | _ => ("BenchOrdersModel", "h", "J", false)
def tyX9 : Nat → FieldType := fun k => match k with
  | 0 => .array .int
  | 1 => .array .int
  | 2 => .array .int
  | 3 => .int
  | 4 => .array .int
  | 5 => .array .int
  | 6 => .int
  | 7 => .array .int
  | 8 => .array .int
  | 9 => .array .int
  | 10 => .int
  | 11 => .array .int
  | 12 => .array .int
  | 13 => .array .boolean
  | 14 => .array .int
  | 15 => .int
  | 16 => .int
  | 17 => .boolean
  | 18 => .int
  | 19 => .boolean
  | 20 => .boolean
  | 21 => .int
  | 22 => .int
  | _ => .long
theorem nmX9 : ∀ a, a < 24 → ∀ b, b < 24 → a ≠ b → (TX9 a).2.1 ≠ (TX9 b).2.1 := by decide +kernel
theorem tyX9_ok : ∀ k, k < 24 → parseFieldDescriptor (TX9 k).2.2.1 = some (tyX9 k) := by decide +kernel
abbrev cX9_init : ByteArray := prog_11_method_1_code
def yX9_init : MethodName := ⟨RX9, "<init>", "()V"⟩
abbrev cX9_in : ByteArray := prog_11_method_2_code
def yX9_in : MethodName := ⟨RX9, "in", "(III)Z"⟩
abbrev cX9_refuses : ByteArray := prog_11_method_3_code
def yX9_refuses : MethodName := ⟨RX9, "refuses", "(I)I"⟩
abbrev cX9_hold : ByteArray := prog_11_method_4_code
def yX9_hold : MethodName := ⟨RX9, "hold", "()V"⟩
abbrev cX9_push : ByteArray := prog_11_method_5_code
def yX9_push : MethodName := ⟨RX9, "push", "()V"⟩
abbrev cX9_back : ByteArray := prog_11_method_6_code
def yX9_back : MethodName := ⟨RX9, "back", "()I"⟩
abbrev cX9_isSmall : ByteArray := prog_11_method_7_code
def yX9_isSmall : MethodName := ⟨RX9, "isSmall", "(I)Z"⟩
abbrev cX9_isCapital : ByteArray := prog_11_method_8_code
def yX9_isCapital : MethodName := ⟨RX9, "isCapital", "(I)Z"⟩
abbrev cX9_isLetter : ByteArray := prog_11_method_9_code
def yX9_isLetter : MethodName := ⟨RX9, "isLetter", "(I)Z"⟩
abbrev cX9_small : ByteArray := prog_11_method_10_code
def yX9_small : MethodName := ⟨RX9, "small", "(I)I"⟩
abbrev cX9_ofNode : ByteArray := prog_11_method_11_code
def yX9_ofNode : MethodName := ⟨RX9, "ofNode", "(II)I"⟩
abbrev cX9_put : ByteArray := prog_11_method_12_code
def yX9_put : MethodName := ⟨RX9, "put", "(III)V"⟩
abbrev cX9_isNode : ByteArray := prog_11_method_13_code
def yX9_isNode : MethodName := ⟨RX9, "isNode", "(I)Z"⟩
abbrev cX9_isKind : ByteArray := prog_11_method_14_code
def yX9_isKind : MethodName := ⟨RX9, "isKind", "(II)Z"⟩
abbrev cX9_capitals : ByteArray := prog_11_method_15_code
def yX9_capitals : MethodName := ⟨RX9, "capitals", "()I"⟩
abbrev cX9_node : ByteArray := prog_11_method_16_code
def yX9_node : MethodName := ⟨RX9, "node", "(IIII)I"⟩
abbrev cX9_setAll : ByteArray := prog_11_method_17_code
def yX9_setAll : MethodName := ⟨RX9, "setAll", "(I)V"⟩
abbrev cX9_range : ByteArray := prog_11_method_18_code
def yX9_range : MethodName := ⟨RX9, "range", "(III)I"⟩
abbrev cX9_toldOfNode : ByteArray := prog_11_method_19_code
def yX9_toldOfNode : MethodName := ⟨RX9, "toldOfNode", "(II)I"⟩
abbrev cX9_of : ByteArray := prog_11_method_20_code
def yX9_of : MethodName := ⟨RX9, "of", "(II)I"⟩
abbrev cX9_value : ByteArray := prog_11_method_21_code
def yX9_value : MethodName := ⟨RX9, "value", "(II)I"⟩
abbrev cX9_isSame : ByteArray := prog_11_method_22_code
def yX9_isSame : MethodName := ⟨RX9, "isSame", "(III)Z"⟩
abbrev cX9_isFit : ByteArray := prog_11_method_23_code
def yX9_isFit : MethodName := ⟨RX9, "isFit", "(II)Z"⟩
abbrev cX9_pass : ByteArray := prog_11_method_24_code
def yX9_pass : MethodName := ⟨RX9, "pass", "(IIZ)V"⟩
abbrev cX9_goesOn : ByteArray := prog_11_method_25_code
def yX9_goesOn : MethodName := ⟨RX9, "goesOn", "()Z"⟩
abbrev cX9_find : ByteArray := prog_11_method_26_code
def yX9_find : MethodName := ⟨RX9, "find", "()I"⟩
abbrev cX9_addFault : ByteArray := prog_11_method_27_code
def yX9_addFault : MethodName := ⟨RX9, "addFault", "(I)V"⟩
abbrev cX9_addAnswer : ByteArray := prog_11_method_28_code
def yX9_addAnswer : MethodName := ⟨RX9, "addAnswer", "(I)V"⟩
abbrev cX9_sum : ByteArray := prog_11_method_29_code
def yX9_sum : MethodName := ⟨RX9, "sum", "()I"⟩
abbrev cX9_here : ByteArray := prog_11_method_30_code
def yX9_here : MethodName := ⟨RX9, "here", "()I"⟩
abbrev cX9_isFigure : ByteArray := prog_11_method_31_code
def yX9_isFigure : MethodName := ⟨RX9, "isFigure", "()Z"⟩
abbrev cX9_blanks : ByteArray := prog_11_method_32_code
def yX9_blanks : MethodName := ⟨RX9, "blanks", "()V"⟩
abbrev cX9_isWord : ByteArray := prog_11_method_33_code
def yX9_isWord : MethodName := ⟨RX9, "isWord", "()Z"⟩
abbrev cX9_areWords : ByteArray := prog_11_method_34_code
def yX9_areWords : MethodName := ⟨RX9, "areWords", "()Z"⟩
abbrev cX9_isCommonWord : ByteArray := prog_11_method_35_code
def yX9_isCommonWord : MethodName := ⟨RX9, "isCommonWord", "()Z"⟩
abbrev cX9_isHeader : ByteArray := prog_11_method_36_code
def yX9_isHeader : MethodName := ⟨RX9, "isHeader", "()Z"⟩
abbrev cX9_isWordValue : ByteArray := prog_11_method_37_code
def yX9_isWordValue : MethodName := ⟨RX9, "isWordValue", "()Z"⟩
abbrev cX9_isUnitValue : ByteArray := prog_11_method_38_code
def yX9_isUnitValue : MethodName := ⟨RX9, "isUnitValue", "()Z"⟩
abbrev cX9_isEnd : ByteArray := prog_11_method_39_code
def yX9_isEnd : MethodName := ⟨RX9, "isEnd", "()Z"⟩
abbrev cX9_isUnit : ByteArray := prog_11_method_40_code
def yX9_isUnit : MethodName := ⟨RX9, "isUnit", "()Z"⟩
abbrev cX9_form : ByteArray := prog_11_method_41_code
def yX9_form : MethodName := ⟨RX9, "form", "()I"⟩
abbrev cX9_doCommon : ByteArray := prog_11_method_42_code
def yX9_doCommon : MethodName := ⟨RX9, "doCommon", "()I"⟩
abbrev cX9_doOver : ByteArray := prog_11_method_43_code
def yX9_doOver : MethodName := ⟨RX9, "doOver", "()V"⟩
abbrev cX9_doMask : ByteArray := prog_11_method_44_code
def yX9_doMask : MethodName := ⟨RX9, "doMask", "(I)I"⟩
abbrev cX9_doNode : ByteArray := prog_11_method_45_code
def yX9_doNode : MethodName := ⟨RX9, "doNode", "(I)I"⟩
abbrev cX9_doUnit : ByteArray := prog_11_method_46_code
def yX9_doUnit : MethodName := ⟨RX9, "doUnit", "()I"⟩
abbrev cX9_sends : ByteArray := prog_11_method_47_code
def yX9_sends : MethodName := ⟨RX9, "sends", "()I"⟩
abbrev cX9_finds : ByteArray := prog_11_method_48_code
def yX9_finds : MethodName := ⟨RX9, "finds", "()I"⟩
abbrev cX9_takeFirst : ByteArray := prog_11_method_49_code
def yX9_takeFirst : MethodName := ⟨RX9, "takeFirst", "(II)I"⟩
abbrev cX9_removeAt : ByteArray := prog_11_method_50_code
def yX9_removeAt : MethodName := ⟨RX9, "removeAt", "(III)V"⟩
abbrev cX9_answer : ByteArray := prog_11_method_51_code
def yX9_answer : MethodName := ⟨RX9, "answer", "()I"⟩
abbrev cX9_fault : ByteArray := prog_11_method_52_code
def yX9_fault : MethodName := ⟨RX9, "fault", "()I"⟩
abbrev cX9_condition : ByteArray := prog_11_method_53_code
def yX9_condition : MethodName := ⟨RX9, "condition", "(II)I"⟩
abbrev cX9_masks : ByteArray := prog_11_method_54_code
def yX9_masks : MethodName := ⟨RX9, "masks", "(II)I"⟩
abbrev cX9_edges : ByteArray := prog_11_method_55_code
def yX9_edges : MethodName := ⟨RX9, "edges", "()I"⟩
abbrev cX9_finishes : ByteArray := prog_11_method_56_code
def yX9_finishes : MethodName := ⟨RX9, "finishes", "(I)I"⟩
abbrev cX9_stateOf : ByteArray := prog_11_method_57_code
def yX9_stateOf : MethodName := ⟨RX9, "stateOf", "(I)I"⟩
abbrev cX9_state : ByteArray := prog_11_method_58_code
def yX9_state : MethodName := ⟨RX9, "state", "(I)I"⟩
abbrev cX9_rowAt : ByteArray := prog_11_method_59_code
def yX9_rowAt : MethodName := ⟨RX9, "rowAt", "(III)I"⟩
abbrev cX9_answers : ByteArray := prog_11_method_60_code
def yX9_answers : MethodName := ⟨RX9, "answers", "(I)I"⟩
abbrev cX9_faults : ByteArray := prog_11_method_61_code
def yX9_faults : MethodName := ⟨RX9, "faults", "(I)I"⟩
abbrev cX9_pending : ByteArray := prog_11_method_62_code
def yX9_pending : MethodName := ⟨RX9, "pending", "(I)I"⟩
abbrev cX9_type : ByteArray := prog_11_method_63_code
def yX9_type : MethodName := ⟨RX9, "type", "(I)I"⟩
abbrev cX9_clear : ByteArray := prog_11_method_64_code
def yX9_clear : MethodName := ⟨RX9, "clear", "()I"⟩
abbrev cX9_toldOf : ByteArray := prog_11_method_65_code
def yX9_toldOf : MethodName := ⟨RX9, "toldOf", "(I)I"⟩
abbrev cX9_told : ByteArray := prog_11_method_66_code
def yX9_told : MethodName := ⟨RX9, "told", "(I)I"⟩
abbrev cX9_mix : ByteArray := prog_11_method_67_code
def yX9_mix : MethodName := ⟨RX9, "mix", "(I)V"⟩
abbrev cX9_mixRow : ByteArray := prog_11_method_68_code
def yX9_mixRow : MethodName := ⟨RX9, "mixRow", "(II)V"⟩
abbrev cX9_digest : ByteArray := prog_11_method_69_code
def yX9_digest : MethodName := ⟨RX9, "digest", "()J"⟩
def RJ9 : String := "java/lang/Math"
abbrev cJ9_max_7cf53 : ByteArray := prog_12_method_65_code
def yJ9_max_7cf53 : MethodName := ⟨RJ9, "max", "(II)I"⟩
abbrev cJ9_min_7cf53 : ByteArray := prog_12_method_69_code
def yJ9_min_7cf53 : MethodName := ⟨RJ9, "min", "(II)I"⟩
def RJ0 : String := "java/lang/String"
abbrev cJ0_length_8abf5 : ByteArray := prog_13_method_54_code
def yJ0_length_8abf5 : MethodName := ⟨RJ0, "length", "()I"⟩
abbrev cJ0_charAt_5068e : ByteArray := prog_13_method_56_code
def yJ0_charAt_5068e : MethodName := ⟨RJ0, "charAt", "(I)C"⟩
abbrev cJ0_coder_7d493 : ByteArray := prog_13_method_152_code
def yJ0_coder_7d493 : MethodName := ⟨RJ0, "coder", "()B"⟩
abbrev cJ0_isLatin1_aae02 : ByteArray := prog_13_method_154_code
def yJ0_isLatin1_aae02 : MethodName := ⟨RJ0, "isLatin1", "()Z"⟩
abbrev cJ0_checkIndex_df160 : ByteArray := prog_13_method_155_code
def yJ0_checkIndex_df160 : MethodName := ⟨RJ0, "checkIndex", "(II)V"⟩
def RJ1 : String := "java/lang/StringLatin1"
abbrev cJ1_charAt_3b067 : ByteArray := prog_14_method_2_code
def yJ1_charAt_3b067 : MethodName := ⟨RJ1, "charAt", "([BI)C"⟩
def RJ2 : String := "java/lang/StringUTF16"
abbrev cJ2_getChar_3b067 : ByteArray := prog_15_method_5_code
def yJ2_getChar_3b067 : MethodName := ⟨RJ2, "getChar", "([BI)C"⟩
abbrev cJ2_length_9d52b : ByteArray := prog_15_method_6_code
def yJ2_length_9d52b : MethodName := ⟨RJ2, "length", "([B)I"⟩
abbrev cJ2_charAt_3b067 : ByteArray := prog_15_method_83_code
def yJ2_charAt_3b067 : MethodName := ⟨RJ2, "charAt", "([BI)C"⟩
abbrev cJ2_checkIndex_2214a : ByteArray := prog_15_method_91_code
def yJ2_checkIndex_2214a : MethodName := ⟨RJ2, "checkIndex", "(I[B)V"⟩
def RJ3 : String := "jdk/internal/util/Preconditions"
abbrev cJ3_checkIndex_8e157 : ByteArray := prog_16_method_11_code
def yJ3_checkIndex_8e157 : MethodName := ⟨RJ3, "checkIndex", "(IILjava/util/function/BiFunction;)I"⟩
def RL : String := "BenchOrdersLaw"
abbrev cL_law : ByteArray := code
def yL_law : MethodName := ⟨RL, "law", "([I)Z"⟩
abbrev vwCl : List vw_C := [(RX0, TX0, 2), (RX1, TX1, 7), (RX2, TX2, 2), (RX3, TX3, 17), (RX4, TX4, 2), (RX5, TX5, 4), (RX6, TX6, 9), (RX7, TX7, 4), (RX8, TX8, 8), (RX9, TX9, 24)]
end
section
/-! memory, cells, the world of all cells -/
abbrev Mem : Type := Nat → Nat → Int32
abbrev EnvT : Type := (Nat → Nat) × va_G × (Nat → ClassId) × Nat × (Nat → Nat) × (Nat → Nat)
def eAd (E : EnvT) (q : Nat) : Nat := E.1 q
def eD (E : EnvT) : va_G := E.2.1
def eC (E : EnvT) (k : Nat) : ClassId := E.2.2.1 k
def eB (E : EnvT) : Nat := E.2.2.2.1
def eK (E : EnvT) (i : Nat) : Nat := E.2.2.2.2.1 i
def eV (E : EnvT) (i : Nat) : Nat := E.2.2.2.2.2 i
def eA (E : EnvT) : Nat → Prop := fun q => eB E ≤ q
def tysE (E : EnvT) : List (ClassId × FieldType) := [(eC E 0, .byte), (eC E 1, .int), (eC E 2, .boolean), (eC E 3, .object "BenchOrders$Node"), (eC E 4, .object "BenchOrders$State")]
def up (σ : Mem) (k j : Nat) (v : Int32) : Mem := fun c i => if c = k ∧ i = j then v else σ c i
abbrev ix (x : Int32) : Nat := x.toNatClampNeg
def inR (i : Int32) (n : Nat) : Bool := decide (¬ (i < 0 ∨ n ≤ i.toNatClampNeg))
theorem inR_vp {i : Int32} {n : Nat} (h : inR i n = true) : vp_in i n := by
  have h1 : ¬ (i < 0 ∨ n ≤ i.toNatClampNeg) := of_decide_eq_true h
  exact h1
theorem inR_lt {i : Int32} {n : Nat} (h : inR i n = true) : ix i < n := Nat.not_le.mp fun q => inR_vp h (Or.inr q)
def isB (x : Int32) : Bool := decide (x = 0 ∨ x = 1)
def lm {α : Type} (a : Mem) (k : Mem → Option α) : Option α := k a
def gd {α : Type} (b : Bool) (x : Option α) : Option α := if b = true then x else none
def bm {α β : Type} (o : Option (Mem × β)) (k : Mem → β → Option α) : Option α := match o with
  | some r => k r.1 r.2
  | none => none
def lo32 (x : Int64) : Int32 := Int32.ofBitVec (x.toBitVec.extractLsb' 0 32)
def hi32 (x : Int64) : Int32 := Int32.ofBitVec (x.toBitVec.extractLsb' 32 32)
def j64 (a b : Int32) : Int64 := Int64.ofBitVec (b.toBitVec ++ a.toBitVec)
theorem j64_split (x : Int64) : j64 (lo32 x) (hi32 x) = x := by
  have h : ∀ v : BitVec 64, (v.extractLsb' 32 32 ++ v.extractLsb' 0 32 : BitVec 64) = v := by
    intro v
    apply BitVec.eq_of_getLsbD_eq
    intro i hi
    simp only [BitVec.getLsbD_append, BitVec.getLsbD_extractLsb']
    by_cases h : i < 32
    · simp [h]
    · have e : 32 + (i - 32) = i := by omega
      have h2 : i - 32 < 32 := by omega
      simp [h, e, h2]
  show Int64.ofBitVec ((Int32.ofBitVec (x.toBitVec.extractLsb' 32 32)).toBitVec ++ (Int32.ofBitVec (x.toBitVec.extractLsb' 0 32)).toBitVec) = x
  exact congrArg Int64.ofBitVec (h x.toBitVec)

def kdL : List Nat := [8, 4, 10, 5, 13, 11, 1, 10, 1, 10, 1, 10, 1, 10, 1, 10, 1, 10, 1, 10, 1, 10, 1, 10, 1, 10, 1, 10, 1, 10, 1, 10, 1, 10, 1, 10, 1, 10, 6, 7, 11, 11, 11, 3, 11, 11, 11, 11, 2, 11, 2, 11, 2, 11, 0, 14, 3, 11, 11, 11, 11, 2, 11, 2, 11, 2, 11, 3, 11, 11, 11, 11, 2, 11, 2, 11, 2, 11, 3, 11, 11, 11, 11, 2, 11, 2, 11, 2, 11, 3, 11, 11, 11, 11, 2, 11, 2, 11, 2, 11, 3, 11, 11, 11, 11, 2, 11, 2, 11, 2, 11, 9, 11, 11, 11, 11, 11, 11, 11, 11, 11, 11, 12, 11]
def lnL : List Nat := [0, 0, 100, 0, 16, 16, 0, 8, 0, 8, 0, 8, 0, 8, 0, 8, 0, 8, 0, 8, 0, 8, 0, 8, 0, 8, 0, 8, 0, 8, 0, 8, 0, 8, 0, 8, 0, 8, 0, 0, 6, 6, 6, 0, 16, 16, 16, 48, 0, 6, 0, 4, 0, 4, 0, 5, 0, 16, 16, 16, 48, 0, 6, 0, 4, 0, 4, 0, 16, 16, 16, 48, 0, 6, 0, 4, 0, 4, 0, 16, 16, 16, 48, 0, 6, 0, 4, 0, 4, 0, 16, 16, 16, 48, 0, 6, 0, 4, 0, 4, 0, 16, 16, 16, 48, 0, 6, 0, 4, 0, 4, 0, 347, 347, 1735, 3, 100, 8, 8, 8, 20, 20, 20, 20]
def kd (q : Nat) : Nat := kdL.getD q 99
def ln (q : Nat) : Nat := lnL.getD q 0
def isSt (q : Nat) : Bool := q == 43 || q == 56 || q == 67 || q == 78 || q == 89 || q == 100
theorem kd_lt {q k : Nat} (h : kd q = k) (hk : k < 99) : q < 124 := by
  rcases Nat.lt_or_ge q 124 with h1 | h1
  · exact h1
  · have e : kdL[q]? = none := List.getElem?_eq_none (show kdL.length ≤ q from h1)
    rw [show kd q = kdL.getD q 99 from rfl, List.getD_eq_getElem?_getD, e] at h
    exact absurd h (by show ¬ 99 = k; omega)
theorem isSt_cases {q : Nat} (h : isSt q = true) : q = 43 ∨ q = 56 ∨ q = 67 ∨ q = 78 ∨ q = 89 ∨ q = 100 := by
  simp only [isSt, Bool.or_eq_true, beq_iff_eq] at h
  omega
theorem kst0 {q : Nat} (h : isSt q = true) : kd (q + 0) = 3 := by rcases isSt_cases h with h | h | h | h | h | h <;> subst h <;> rfl
theorem kst1 {q : Nat} (h : isSt q = true) : kd (q + 1) = 11 := by rcases isSt_cases h with h | h | h | h | h | h <;> subst h <;> rfl
theorem lst1 {q : Nat} (h : isSt q = true) : ln (q + 1) = 16 := by rcases isSt_cases h with h | h | h | h | h | h <;> subst h <;> rfl
theorem kst2 {q : Nat} (h : isSt q = true) : kd (q + 2) = 11 := by rcases isSt_cases h with h | h | h | h | h | h <;> subst h <;> rfl
theorem lst2 {q : Nat} (h : isSt q = true) : ln (q + 2) = 16 := by rcases isSt_cases h with h | h | h | h | h | h <;> subst h <;> rfl
theorem kst3 {q : Nat} (h : isSt q = true) : kd (q + 3) = 11 := by rcases isSt_cases h with h | h | h | h | h | h <;> subst h <;> rfl
theorem lst3 {q : Nat} (h : isSt q = true) : ln (q + 3) = 16 := by rcases isSt_cases h with h | h | h | h | h | h <;> subst h <;> rfl
theorem kst4 {q : Nat} (h : isSt q = true) : kd (q + 4) = 11 := by rcases isSt_cases h with h | h | h | h | h | h <;> subst h <;> rfl
theorem lst4 {q : Nat} (h : isSt q = true) : ln (q + 4) = 48 := by rcases isSt_cases h with h | h | h | h | h | h <;> subst h <;> rfl
theorem kst5 {q : Nat} (h : isSt q = true) : kd (q + 5) = 2 := by rcases isSt_cases h with h | h | h | h | h | h <;> subst h <;> rfl
theorem kst6 {q : Nat} (h : isSt q = true) : kd (q + 6) = 11 := by rcases isSt_cases h with h | h | h | h | h | h <;> subst h <;> rfl
theorem lst6 {q : Nat} (h : isSt q = true) : ln (q + 6) = 6 := by rcases isSt_cases h with h | h | h | h | h | h <;> subst h <;> rfl
theorem kst7 {q : Nat} (h : isSt q = true) : kd (q + 7) = 2 := by rcases isSt_cases h with h | h | h | h | h | h <;> subst h <;> rfl
theorem kst8 {q : Nat} (h : isSt q = true) : kd (q + 8) = 11 := by rcases isSt_cases h with h | h | h | h | h | h <;> subst h <;> rfl
theorem lst8 {q : Nat} (h : isSt q = true) : ln (q + 8) = 4 := by rcases isSt_cases h with h | h | h | h | h | h <;> subst h <;> rfl
theorem kst9 {q : Nat} (h : isSt q = true) : kd (q + 9) = 2 := by rcases isSt_cases h with h | h | h | h | h | h <;> subst h <;> rfl
theorem kst10 {q : Nat} (h : isSt q = true) : kd (q + 10) = 11 := by rcases isSt_cases h with h | h | h | h | h | h <;> subst h <;> rfl
theorem lst10 {q : Nat} (h : isSt q = true) : ln (q + 10) = 4 := by rcases isSt_cases h with h | h | h | h | h | h <;> subst h <;> rfl
theorem kst {q : Nat} (h : isSt q = true) : kd q = 3 := kst0 h
theorem krow {q : Nat} (h : kd q = 2) : kd (q + 1) = 11 := by
  have a : ∀ q, q < 124 → kd q = 2 → kd (q + 1) = 11 := by decide
  exact a q (kd_lt h (by decide)) h
theorem knode {q : Nat} (h : kd q = 1) : kd (q + 1) = 10 := by
  have a : ∀ q, q < 124 → kd q = 1 → kd (q + 1) = 10 := by decide
  exact a q (kd_lt h (by decide)) h
theorem lnode {q : Nat} (h : kd q = 1) : ln (q + 1) = 8 := by
  have a : ∀ q, q < 124 → kd q = 1 → ln (q + 1) = 8 := by decide
  exact a q (kd_lt h (by decide)) h
theorem knd {i : Int32} (h : inR i 16 = true) : kd (6 + 2 * ix i) = 1 := by
  have a : ∀ j, j < 16 → kd (6 + 2 * j) = 1 := by decide
  exact a _ (inR_lt h)
def ce (E : EnvT) (q : Nat) (f : Nat → Int32) : va_E := match kd q with
  | 0 => .inr (0, [.ref (eAd E 55), .int (f 1)])
  | 1 => .inr (1, [.int (f 0), .int (f 1), .int (f 2), .int (f 3), .int (f 4), .int (f 5), .ref (eAd E (q + 1))])
  | 2 => .inr (2, [.ref (eAd E (q + 1)), .int (f 1)])
  | 3 => .inr (3, [.int (f 0), .ref (eAd E (q + 1)), .ref (eAd E (q + 2)), .ref (eAd E (q + 3)), .ref (eAd E (q + 4)), .ref (eAd E (q + 5)), .ref (eAd E (q + 7)), .ref (eAd E (q + 9)), .int (f 8), .int (f 9), .int (f 10), .int (f 11), .int (f 12), .int (f 13), .int (f 14), .int (f 15), .int (f 16)])
  | 4 => .inr (4, [.ref (eAd E 2), .int (f 1)])
  | 5 => .inr (5, [.ref (eAd E 4), .ref (eAd E 5), .int (f 2), .int (f 3)])
  | 6 => .inr (6, [.ref (eAd E 39), .int (f 1), .int (f 2), .int (f 3), .int (f 4), .int (f 5), .int (f 6), .int (f 7), .int (f 8)])
  | 7 => .inr (7, [.ref (eAd E 40), .ref (eAd E 41), .ref (eAd E 42), .int (f 3)])
  | 8 => .inr (8, [.ref (eAd E 1), .ref (eAd E 3), .ref (eAd E 38), .ref (eAd E 43), .ref (eAd E 54), .int (f 5), .int (f 6), .int (f 7)])
  | 9 => .inr (9, [.ref (eAd E 112), .ref (eAd E 113), .ref (eAd E 114), .int (f 3), .ref (eAd E 115), .ref (eAd E 116), .int (f 6), .ref (eAd E 117), .ref (eAd E 118), .ref (eAd E 119), .int (f 10), .ref (eAd E 120), .ref (eAd E 121), .ref (eAd E 122), .ref (eAd E 123), .int (f 15), .int (f 16), .int (f 17), .int (f 18), .int (f 19), .int (f 20), .int (f 21), .int (f 22), .long (j64 (f 23) (f 24))])
  | 10 => .inl (eC E 0, (ln q, .inl f))
  | 11 => .inl (eC E 1, (ln q, .inl f))
  | 12 => .inl (eC E 2, (ln q, .inl f))
  | 13 => .inl (eC E 3, (16, .inr (.inr (.inr (.inr (fun j => some (eAd E (6 + 2 * j))))))))
  | _ => .inl (eC E 4, (5, .inr (.inr (.inr (.inr (fun j => some (eAd E (ix (f j)))))))))
theorem ce_0 {E : EnvT} {q : Nat} {f : Nat → Int32} (h : kd q = 0) : ce E q f = .inr (0, [.ref (eAd E 55), .int (f 1)]) := by unfold ce; rw [h]; rfl
theorem ce_1 {E : EnvT} {q : Nat} {f : Nat → Int32} (h : kd q = 1) : ce E q f = .inr (1, [.int (f 0), .int (f 1), .int (f 2), .int (f 3), .int (f 4), .int (f 5), .ref (eAd E (q + 1))]) := by unfold ce; rw [h]; rfl
theorem ce_2 {E : EnvT} {q : Nat} {f : Nat → Int32} (h : kd q = 2) : ce E q f = .inr (2, [.ref (eAd E (q + 1)), .int (f 1)]) := by unfold ce; rw [h]; rfl
theorem ce_3 {E : EnvT} {q : Nat} {f : Nat → Int32} (h : kd q = 3) : ce E q f = .inr (3, [.int (f 0), .ref (eAd E (q + 1)), .ref (eAd E (q + 2)), .ref (eAd E (q + 3)), .ref (eAd E (q + 4)), .ref (eAd E (q + 5)), .ref (eAd E (q + 7)), .ref (eAd E (q + 9)), .int (f 8), .int (f 9), .int (f 10), .int (f 11), .int (f 12), .int (f 13), .int (f 14), .int (f 15), .int (f 16)]) := by unfold ce; rw [h]; rfl
theorem ce_4 {E : EnvT} {q : Nat} {f : Nat → Int32} (h : kd q = 4) : ce E q f = .inr (4, [.ref (eAd E 2), .int (f 1)]) := by unfold ce; rw [h]; rfl
theorem ce_5 {E : EnvT} {q : Nat} {f : Nat → Int32} (h : kd q = 5) : ce E q f = .inr (5, [.ref (eAd E 4), .ref (eAd E 5), .int (f 2), .int (f 3)]) := by unfold ce; rw [h]; rfl
theorem ce_6 {E : EnvT} {q : Nat} {f : Nat → Int32} (h : kd q = 6) : ce E q f = .inr (6, [.ref (eAd E 39), .int (f 1), .int (f 2), .int (f 3), .int (f 4), .int (f 5), .int (f 6), .int (f 7), .int (f 8)]) := by unfold ce; rw [h]; rfl
theorem ce_7 {E : EnvT} {q : Nat} {f : Nat → Int32} (h : kd q = 7) : ce E q f = .inr (7, [.ref (eAd E 40), .ref (eAd E 41), .ref (eAd E 42), .int (f 3)]) := by unfold ce; rw [h]; rfl
theorem ce_8 {E : EnvT} {q : Nat} {f : Nat → Int32} (h : kd q = 8) : ce E q f = .inr (8, [.ref (eAd E 1), .ref (eAd E 3), .ref (eAd E 38), .ref (eAd E 43), .ref (eAd E 54), .int (f 5), .int (f 6), .int (f 7)]) := by unfold ce; rw [h]; rfl
theorem ce_9 {E : EnvT} {q : Nat} {f : Nat → Int32} (h : kd q = 9) : ce E q f = .inr (9, [.ref (eAd E 112), .ref (eAd E 113), .ref (eAd E 114), .int (f 3), .ref (eAd E 115), .ref (eAd E 116), .int (f 6), .ref (eAd E 117), .ref (eAd E 118), .ref (eAd E 119), .int (f 10), .ref (eAd E 120), .ref (eAd E 121), .ref (eAd E 122), .ref (eAd E 123), .int (f 15), .int (f 16), .int (f 17), .int (f 18), .int (f 19), .int (f 20), .int (f 21), .int (f 22), .long (j64 (f 23) (f 24))]) := by unfold ce; rw [h]; rfl
theorem ce_10 {E : EnvT} {q : Nat} {f : Nat → Int32} (h : kd q = 10) : ce E q f = .inl (eC E 0, (ln q, .inl f)) := by unfold ce; rw [h]; rfl
theorem ce_11 {E : EnvT} {q : Nat} {f : Nat → Int32} (h : kd q = 11) : ce E q f = .inl (eC E 1, (ln q, .inl f)) := by unfold ce; rw [h]; rfl
theorem ce_12 {E : EnvT} {q : Nat} {f : Nat → Int32} (h : kd q = 12) : ce E q f = .inl (eC E 2, (ln q, .inl f)) := by unfold ce; rw [h]; rfl
theorem ce_13 {E : EnvT} {q : Nat} {f : Nat → Int32} (h : kd q = 13) : ce E q f = .inl (eC E 3, (16, .inr (.inr (.inr (.inr (fun j => some (eAd E (6 + 2 * j)))))))) := by unfold ce; rw [h]; rfl
theorem ce_14 {E : EnvT} {q : Nat} {f : Nat → Int32} (h : kd q = 14) : ce E q f = .inl (eC E 4, (5, .inr (.inr (.inr (.inr (fun j => some (eAd E (ix (f j))))))))) := by unfold ce; rw [h]; rfl
theorem ce_obj {E : EnvT} {q ci : Nat} {f : Nat → Int32} (h : kd q = ci) (hc : ci < 10) : ∃ fs, ce E q f = .inr (ci, fs) := by
  subst h
  generalize hk : kd q = k at hc
  match k, hc with
  | 0, _ => exact ⟨_, ce_0 hk⟩
  | 1, _ => exact ⟨_, ce_1 hk⟩
  | 2, _ => exact ⟨_, ce_2 hk⟩
  | 3, _ => exact ⟨_, ce_3 hk⟩
  | 4, _ => exact ⟨_, ce_4 hk⟩
  | 5, _ => exact ⟨_, ce_5 hk⟩
  | 6, _ => exact ⟨_, ce_6 hk⟩
  | 7, _ => exact ⟨_, ce_7 hk⟩
  | 8, _ => exact ⟨_, ce_8 hk⟩
  | 9, _ => exact ⟨_, ce_9 hk⟩
  | k + 10, hc => omega
def Wd (E : EnvT) (σ : Mem) : va_W := (List.range 124).map (fun k => (eAd E k, ce E k (σ k)))
theorem Wd_get {E : EnvT} {σ : Mem} {k : Nat} (h : k < 124) : (Wd E σ)[k]? = some (eAd E k, ce E k (σ k)) := by
  unfold Wd
  rw [List.getElem?_map, List.getElem?_range h]
  rfl
theorem Wd_none {E : EnvT} {σ : Mem} {k : Nat} (h : 124 ≤ k) : (Wd E σ)[k]? = none := by
  apply List.getElem?_eq_none
  unfold Wd
  rw [List.length_map, List.length_range]
  exact h
theorem Wd_set {E : EnvT} {σ σ' : Mem} {k : Nat} {x : va_E} (h : k < 124) (hx : ce E k (σ' k) = x) (ho : ∀ j, j ≠ k → σ' j = σ j) : (Wd E σ).set k (eAd E k, x) = Wd E σ' := by
  apply List.ext_getElem?
  intro j
  by_cases hj : j = k
  · subst hj
    rw [List.getElem?_set_self (by unfold Wd; rw [List.length_map, List.length_range]; exact h), Wd_get h, hx]
  · rw [List.getElem?_set_ne (Ne.symm hj)]
    by_cases h2 : j < 124
    · rw [Wd_get h2, Wd_get h2, ho j hj]
    · rw [Wd_none (by omega), Wd_none (by omega)]
theorem up_ne {σ : Mem} {k j : Nat} {v : Int32} {c : Nat} (h : c ≠ k) : up σ k j v c = σ c := by
  funext i
  simp [up, h]
theorem up_at {σ : Mem} {k j : Nat} {v : Int32} : up σ k j v k = upd (σ k) j v := by
  funext i
  simp [up, upd]
def EOk (E : EnvT) : Prop := (∀ i j : Nat, i < 124 → j < 124 → eAd E i = eAd E j → i = j) ∧ ∀ i : Nat, i < 124 → eB E ≤ eAd E i
theorem Wd_D {E : EnvT} (h : EOk E) (σ : Mem) : va_D (eA E) (Wd E σ) := by
  have key : ∀ (k : Nat) (q : Nat × va_E), (Wd E σ)[k]? = some q → k < 124 ∧ q.1 = eAd E k := by
    intro k q hq
    by_cases hk : k < 124
    · rw [Wd_get hk] at hq
      cases hq
      exact ⟨hk, rfl⟩
    · rw [Wd_none (by omega)] at hq
      cases hq
  refine ⟨fun i j p q hi hj e => ?_, fun k q hq => ?_⟩
  · obtain ⟨a1, a2⟩ := key i p hi
    obtain ⟨b1, b2⟩ := key j q hj
    exact h.1 i j a1 b1 (by rw [← a2, ← b2]; exact e)
  · obtain ⟨a1, a2⟩ := key k q hq
    show eB E ≤ q.1
    rw [a2]
    exact h.2 k a1

set_option maxRecDepth 20000 in
theorem inX0 : ∀ w ∈ u_ws RX0 TX0 2, w ∈ tb := by decide +kernel
set_option maxRecDepth 20000 in
theorem inX1 : ∀ w ∈ u_ws RX1 TX1 7, w ∈ tb := by decide +kernel
set_option maxRecDepth 20000 in
theorem inX2 : ∀ w ∈ u_ws RX2 TX2 2, w ∈ tb := by decide +kernel
set_option maxRecDepth 20000 in
theorem inX3 : ∀ w ∈ u_ws RX3 TX3 17, w ∈ tb := by decide +kernel
set_option maxRecDepth 20000 in
theorem inX4 : ∀ w ∈ u_ws RX4 TX4 2, w ∈ tb := by decide +kernel
set_option maxRecDepth 20000 in
theorem inX5 : ∀ w ∈ u_ws RX5 TX5 4, w ∈ tb := by decide +kernel
set_option maxRecDepth 20000 in
theorem inX6 : ∀ w ∈ u_ws RX6 TX6 9, w ∈ tb := by decide +kernel
set_option maxRecDepth 20000 in
theorem inX7 : ∀ w ∈ u_ws RX7 TX7 4, w ∈ tb := by decide +kernel
set_option maxRecDepth 20000 in
theorem inX8 : ∀ w ∈ u_ws RX8 TX8 8, w ∈ tb := by decide +kernel
set_option maxRecDepth 20000 in
theorem inX9 : ∀ w ∈ u_ws RX9 TX9 24, w ∈ tb := by decide +kernel

/-! what every method may take as given: the classes, the nest's links, the texts -/
def strN : List Nat := [3, 3, 3, 3, 3, 3, 3, 2, 3]
def strB : List (List Int32) := [[67, 76, 83], [69, 83, 69], [83, 82, 69], [69, 83, 82], [83, 84, 66], [79, 80, 67], [82, 83, 84], [79, 78], [79, 70, 70]]
def skI : List Nat := [75, 81, 83, 85, 87, 89, 91, 122, 124]
def skT : List String := ["CLS", "ESE", "SRE", "ESR", "STB", "OPC", "RST", "ON", "OFF"]
def EK (E : EnvT) (U : State) : Prop := va_K (eD E) vwCl (tysE E) U ∧ (∀ w ∈ lw_tbl, isNest w = true → va_Nw w U) ∧ EOk E ∧ vk_S 9 strN strB (eK E) (eV E) (eA E) U U.heap ∧ (∀ i : Nat, i < 9 → vk_R "BenchOrders$Unit" (skI.getD i 0) (skT.getD i "") (eK E i) U) ∧ va_Z "java/lang/String" "COMPACT_STRINGS" "Z" (.int 1) (eA E) U U.heap ∧ va_Zq "jdk/internal/util/Preconditions" "SIOOBE_FORMATTER" "Ljava/util/function/BiFunction;" (eA E) U U.heap
theorem EK.move {E : EnvT} {s U : State} {H : Heap} {locs : List Loc} (h : EK E s) (hS : va_S (eA E) s.heap H locs) (hU : U.heap = H) (hW : s.WarmedH U.vm) : EK E U := by
  obtain ⟨h1, h2, h3, h4, h5, h6, h7⟩ := h
  refine ⟨va_K.moved hW.alike h1, fun w hw hn => ?_, h3, ?_, fun i hi => (h5 i hi).warm hW, ?_, ?_⟩
  · have h := h2 w hw hn
    cases w <;> first | exact va_Nw.warmM hW h | (simp [isNest] at hn)
  · rw [hU]; exact (h4.moved hW.alike).kept hS.2.1
  · rw [hU]; exact (h6.moved hW.alike).kept hS.2.1
  · rw [hU]; exact (h7.moved hW.alike).kept hS.2.1
theorem EK.same {E : EnvT} {u U : State} (hv : U.vm = u.vm) (hh : U.heap = u.heap) (h : EK E u) : EK E U := by
  obtain ⟨h1, h2, h3, h4, h5, h6, h7⟩ := h
  have ha : u.vm.Alike U.vm := by rw [hv]; exact Vm.Alike.refl _
  refine ⟨va_K.moved ha h1, fun w hw hn => ?_, h3, ?_, fun i hi => (h5 i hi).same hv, ?_, ?_⟩
  · have h := h2 w hw hn
    cases w <;> first | exact va_Nw.same rfl hv.symm h | (simp [isNest] at hn)
  · rw [hh]; exact h4.moved ha
  · rw [hh]; exact h6.moved ha
  · rw [hh]; exact h7.moved ha
def Pre (E : EnvT) (σ : Mem) (U : State) : Prop := EK E U ∧ va_P (eD E) vwCl (Wd E σ) U.heap
def Qm (E : EnvT) (σ' : Mem) (v : Option Value) : Array Value → State → Outcome → State → Prop := fun _ st oc t => oc = .returned v ∧ va_P (eD E) vwCl (Wd E σ') t.heap ∧ va_F (eA E) st t
abbrev ZT : Type := Mem → Option Value → State → Array Value → List Frame → State → Prop
def Zm (E : EnvT) : ZT := fun σ' v s args below => MQ below (Qm E σ' v) args s 0 0 (eA E)
def Fx (E : EnvT) (own : String) (cc : ByteArray) (nL : Nat) (rt : Option FieldType) (p : Program) (s : State) (m : MethodId) (args : Array Value) (meth : Method) (c : Code) : Prop :=
  p.tables.exec = Jvm.exec ∧ c.code = cc ∧ c.maxLocals = nL ∧ meth.sig.returnType = rt ∧ meth.locks = false ∧ s.vm.findClass own = some m.cls ∧ (∀ w ∈ tb, w.before args s = true) ∧ EK E s
/-- from any heap that holds σ and any locals that hold lv the machine, at pc with the stack st, comes to its end with what res says -/
def V (l : Launch) (E : EnvT) (own : String) (cc : ByteArray) (nL : Nat) (rt : Option FieldType) (R : Room) (cells slots : Nat) (Z : ZT) {α : Type} (rv : α → Option Value) (res : Option (Mem × α)) (σ : Mem) (pc : Nat) (lv : List (Nat × Value)) (st : List Value) : Prop :=
  ∀ (σ' : Mem) (r : α), res = some (σ', r) → ∀ (p : Program) (e : Env) (s : State) (m : MethodId) (args : Array Value) (below : List Frame) (meth : Method) (c : Code) (H : Heap) (locs : List Loc) (ls : Array Slot), Fx E own cc nL rt p s m args meth c → va_P (eD E) vwCl (Wd E σ) H → va_S (eA E) s.heap H locs → lv_has ls nL lv → W p l e R s m args below meth c H locs cells slots (Z σ' (rv r) s args below) (F0 m pc ls st)
def CT (l : Launch) (E : EnvT) (y : MethodName) (cc : ByteArray) (nL : Nat) (rt : Option FieldType) (R : Room) {α : Type} (rv : α → Option Value) (res : Option (Mem × α)) (av : List Value) (σ : Mem) : Prop :=
  ∀ (σ' : Mem) (r : α), res = some (σ', r) → Met l y (.code y cc nL rt :: tb) R (va_Pc av (Pre E σ)) (Qm E σ' (rv r)) 0 0 (eA E)
abbrev rvI (x : Int32) : Option Value := some (.int x)
abbrev rvL (x : Int64) : Option Value := some (.long x)
abbrev rvV (_ : Unit) : Option Value := none
theorem CT.ofV {l : Launch} {E : EnvT} {y : MethodName} {own : String} {cc : ByteArray} {nL : Nat} {rt : Option FieldType} {R : Room} {α : Type} {rv : α → Option Value} {res : Option (Mem × α)} {av : List Value} {σ : Mem} (hy : plainName y.cls = true) (ho : y.cls = own) (hlen : (lg_sl av).length ≤ nL) (h : V l E own cc nL rt R 0 0 (Zm E) rv res σ 0 (lv_args 0 av) []) : CT l E y cc nL rt R rv res av σ := by
  intro σ' r hr
  refine Met.ofW (cc := cc) (maxL := nL) (ret := rt) hy rfl ?_
  intro p e s m args below meth c s₁ B hml hv
  obtain ⟨rfl, hE, hP⟩ := hv
  have hts := atoms_spec (ws := .code y cc nL rt :: tb) B.pre
  rw [lg_entry_eq]
  exact h σ' r hr p e s m _ below meth c s.heap [] _ ⟨B.exec, B.bytes, hml, B.returns, B.notSynchronized, by rw [← ho]; exact findClass_of_methodNamed B.named, fun w hw => hts w (List.mem_cons_of_mem _ hw), hE⟩ hP va_S.rf (lv_entry av hlen)
theorem Pre_blind {E : EnvT} {σ : Mem} {av : List Value} : FrameBlind (va_Pc av (Pre E σ)) := fun a U g mk q => ⟨q.1, EK.same (u := U) rfl rfl q.2.1, q.2.2⟩
theorem good_code {y : MethodName} {cc : ByteArray} {n : Nat} {rt : Option FieldType} (h : Cond.code y cc n rt ∈ tb) : GoodIn tb (.code y cc n rt :: tb) := fun w hw => (List.mem_cons.mp hw).elim (fun e => by rw [e]; exact tb_good _ h) (tb_good w)
/-- what a caller needs of a callee -/
def CalV (y : MethodName) (cc : ByteArray) (nL : Nat) (rt : Option FieldType) (C : String) (n : Nat) : Prop := Cond.instanceMethod y ∈ tb ∧ Cond.selects C y y ∈ tb ∧ Cond.initialized y.cls ∈ tb ∧ Cond.code y cc nL rt ∈ tb ∧ (y.cls ≠ "java/lang/invoke/MethodHandle" ∧ y.cls ≠ "java/lang/invoke/VarHandle" ∧ (parseMethodDescriptor y.desc).map (fun d => d.parameters.length) = some n)
def CalS (y : MethodName) (cc : ByteArray) (nL : Nat) (rt : Option FieldType) (n : Nat) : Prop := Cond.static y ∈ tb ∧ Cond.initialized y.cls ∈ tb ∧ Cond.code y cc nL rt ∈ tb ∧ (y.cls ≠ "java/lang/invoke/MethodHandle" ∧ y.cls ≠ "java/lang/invoke/VarHandle" ∧ (parseMethodDescriptor y.desc).map (fun d => d.parameters.length) = some n)
section Rows
variable {l : Launch} {E : EnvT} {own : String} {cc : ByteArray} {nL : Nat} {rt : Option FieldType} {R : Room} {cells slots : Nat} {Z : ZT} {α : Type} {rv : α → Option Value} {res : Option (Mem × α)} {σ : Mem} {pc : Nat} {lv : List (Nat × Value)} {st : List Value}
theorem v_none : V l E own cc nL rt R cells slots Z rv (none : Option (Mem × α)) σ pc lv st := by
  intro σ' r hr
  cases hr
theorem v_gd {b : Bool} (k : b = true → V l E own cc nL rt R cells slots Z rv res σ pc lv st) : V l E own cc nL rt R cells slots Z rv (gd b res) σ pc lv st := by
  intro σ' r hr
  cases b with
  | true => exact k rfl σ' r hr
  | false => cases hr
theorem v_sub {lv' : List (Nat × Value)} (ks : List Nat) (h : lv_pick lv ks = lv') (k : V l E own cc nL rt R cells slots Z rv res σ pc lv' st) : V l E own cc nL rt R cells slots Z rv res σ pc lv st := by
  intro σ' r hr p e s m args below meth c H locs ls F hP hS hl
  exact k σ' r hr p e s m args below meth c H locs ls F hP hS (lv_sub hl ks h)
theorem v_get {q ci k : Nat} {fs : List Value} {v : Value} {C : String} {T : u_T} {NN index : Nat} (hq : q < 124) (hce : ce E q (σ q) = .inr (ci, fs)) (hc : vwCl[ci]? = some (C, T, NN)) (hk : k < NN) (hin : ∀ w ∈ u_ws C T NN, w ∈ tb) (hlink : Cond.fieldLink own index (T k).1 (T k).2.1 (T k).2.2.1 ∈ tb) (hv : fs[k]? = some v) (d : decode cc pc = .ok (.getfield index, 3)) (kk : V l E own cc nL rt R cells slots Z rv res σ (pc + 3) lv (v :: st)) : V l E own cc nL rt R cells slots Z rv res σ pc lv (.ref (eAd E q) :: st) := by
  intro σ' r hr p e s m args below meth c H locs ls F hP hS hl
  have K := kk σ' r hr p e s m args below meth c H locs ls F hP hS hl
  obtain ⟨hx, hb, -, -, -, hown, hts, hE⟩ := F
  exact va_get (D := eD E) (ci := ci) (C := C) (T := T) (N := NN) hx hb hts hin hown hE.1 hP q (by rw [Wd_get hq, hce]) hc k hk (hts _ hlink) (fun _ h => h) hv d K
theorem v_put {q ci k : Nat} {fs : List Value} {x : Value} {σ1 : Mem} {C : String} {T : u_T} {NN index : Nat} {ty : FieldType} {body : Mem → Option (Mem × α)} (ty0 : Nat → FieldType) (hty : ∀ k, k < NN → parseFieldDescriptor (T k).2.2.1 = some (ty0 k)) (hnm : ∀ a, a < NN → ∀ b, b < NN → a ≠ b → (T a).2.1 ≠ (T b).2.1) (hq : q < 124) (hce : ce E q (σ q) = .inr (ci, fs)) (hc : vwCl[ci]? = some (C, T, NN)) (hk : k < NN) (hin : ∀ w ∈ u_ws C T NN, w ∈ tb) (hlink : Cond.fieldLink own index (T k).1 (T k).2.1 (T k).2.2.1 ∈ tb) (hfin : (T k).2.2.2 = false) (hd : parseFieldDescriptor (T k).2.2.1 = some ty) (hn : narrow ty x = x) (hfit : fits ty x = true) (hl0 : k < fs.length) (h1 : ce E q (σ1 q) = .inr (ci, fs.set k x)) (h2 : ∀ j, j ≠ q → σ1 j = σ j) (d : decode cc pc = .ok (.putfield index, 3)) (kk : ∀ σ2 : Mem, V l E own cc nL rt R cells slots Z rv (body σ2) σ2 (pc + 3) lv st) : V l E own cc nL rt R cells slots Z rv (lm σ1 body) σ pc lv (x :: .ref (eAd E q) :: st) := by
  intro σ' r hr p e s m args below meth c H locs ls F hP hS hl
  have K := fun H1 locs1 a b => kk σ1 σ' r hr p e s m args below meth c H1 locs1 ls F a b hl
  obtain ⟨hx, hb, -, -, -, hown, hts, hE⟩ := F
  refine va_put (D := eD E) (ci := ci) (C := C) (T := T) (N := NN) hx hb hts hin ty0 hty hnm hown hE.1 hP (Wd_D hE.2.2.1 σ) hS q (by rw [Wd_get hq, hce]) hc k hk (hts _ hlink) (fun _ h => h) hfin hd hn hfit hl0 d (fun H1 locs1 hP1 _ hS1 => K H1 locs1 ?_ hS1)
  rw [Wd_set hq h1 h2] at hP1
  exact hP1
theorem v_iald {q n : Nat} {i : Int32} (h : kd q = 11) (hn : ln q = n) (hi : inR i n = true) (d : decode cc pc = .ok (.iaload, 1)) (kk : V l E own cc nL rt R cells slots Z rv res σ (pc + 1) lv (.int (σ q (ix i)) :: st)) : V l E own cc nL rt R cells slots Z rv res σ pc lv (.int i :: .ref (eAd E q) :: st) := by
  intro σ' r hr p e s m args below meth c H locs ls F hP hS hl
  have K := kk σ' r hr p e s m args below meth c H locs ls F hP hS hl
  obtain ⟨hx, hb, -, -, -, hown, hts, hE⟩ := F
  exact va_iald hx hb hE.1 hP q 1 (by rw [Wd_get (kd_lt h (by decide)), ce_11 h]) rfl (by rw [hn]; exact inR_vp hi) d K
theorem v_bald {q n : Nat} {i : Int32} (h : kd q = 10) (hn : ln q = n) (hi : inR i n = true) (d : decode cc pc = .ok (.baload, 1)) (kk : V l E own cc nL rt R cells slots Z rv res σ (pc + 1) lv (.int (σ q (ix i)) :: st)) : V l E own cc nL rt R cells slots Z rv res σ pc lv (.int i :: .ref (eAd E q) :: st) := by
  intro σ' r hr p e s m args below meth c H locs ls F hP hS hl
  have K := kk σ' r hr p e s m args below meth c H locs ls F hP hS hl
  obtain ⟨hx, hb, -, -, -, hown, hts, hE⟩ := F
  exact va_bald hx hb hE.1 hP q 0 (by rw [Wd_get (kd_lt h (by decide)), ce_10 h]) rfl (by rw [hn]; exact inR_vp hi) d K
theorem v_zald {q n : Nat} {i : Int32} (h : kd q = 12) (hn : ln q = n) (hi : inR i n = true) (d : decode cc pc = .ok (.baload, 1)) (kk : V l E own cc nL rt R cells slots Z rv res σ (pc + 1) lv (.int (σ q (ix i)) :: st)) : V l E own cc nL rt R cells slots Z rv res σ pc lv (.int i :: .ref (eAd E q) :: st) := by
  intro σ' r hr p e s m args below meth c H locs ls F hP hS hl
  have K := kk σ' r hr p e s m args below meth c H locs ls F hP hS hl
  obtain ⟨hx, hb, -, -, -, hown, hts, hE⟩ := F
  exact va_zald hx hb hE.1 hP q 2 (by rw [Wd_get (kd_lt h (by decide)), ce_12 h]) rfl (by rw [hn]; exact inR_vp hi) d K
theorem v_iast {q n : Nat} {i x : Int32} {body : Mem → Option (Mem × α)} (h : kd q = 11) (hn : ln q = n) (hi : inR i n = true) (d : decode cc pc = .ok (.iastore, 1)) (kk : ∀ σ2 : Mem, V l E own cc nL rt R cells slots Z rv (body σ2) σ2 (pc + 1) lv st) : V l E own cc nL rt R cells slots Z rv (lm (up σ q (ix i) x) body) σ pc lv (.int x :: .int i :: .ref (eAd E q) :: st) := by
  intro σ' r hr p e s m args below meth c H locs ls F hP hS hl
  have K := fun H1 locs1 a b => kk (up σ q (ix i) x) σ' r hr p e s m args below meth c H1 locs1 ls F a b hl
  obtain ⟨hx, hb, -, -, -, hown, hts, hE⟩ := F
  have hq := kd_lt h (by decide)
  refine va_iast hx hb hE.1 hP (Wd_D hE.2.2.1 σ) hS q 1 (by rw [Wd_get hq, ce_11 h]) rfl (by rw [hn]; exact inR_vp hi) d (fun H1 locs1 hP1 _ hS1 => K H1 locs1 ?_ hS1)
  rw [Wd_set (σ' := up σ q (ix i) x) hq (by rw [ce_11 h, up_at]) (fun j hj => up_ne hj)] at hP1
  exact hP1
theorem v_bast {q n : Nat} {i x : Int32} {body : Mem → Option (Mem × α)} (h : kd q = 10) (hn : ln q = n) (hi : inR i n = true) (d : decode cc pc = .ok (.bastore, 1)) (kk : ∀ σ2 : Mem, V l E own cc nL rt R cells slots Z rv (body σ2) σ2 (pc + 1) lv st) : V l E own cc nL rt R cells slots Z rv (lm (up σ q (ix i) (vp_nar .byte x)) body) σ pc lv (.int x :: .int i :: .ref (eAd E q) :: st) := by
  intro σ' r hr p e s m args below meth c H locs ls F hP hS hl
  have K := fun H1 locs1 a b => kk (up σ q (ix i) (vp_nar .byte x)) σ' r hr p e s m args below meth c H1 locs1 ls F a b hl
  obtain ⟨hx, hb, -, -, -, hown, hts, hE⟩ := F
  have hq := kd_lt h (by decide)
  refine va_bast hx hb hE.1 hP (Wd_D hE.2.2.1 σ) hS q 0 (by rw [Wd_get hq, ce_10 h]) rfl (by rw [hn]; exact inR_vp hi) d (fun H1 locs1 hP1 _ hS1 => K H1 locs1 ?_ hS1)
  rw [Wd_set (σ' := up σ q (ix i) (vp_nar .byte x)) hq (by rw [ce_10 h, up_at]) (fun j hj => up_ne hj)] at hP1
  exact hP1
theorem v_zast {q n : Nat} {i x : Int32} {body : Mem → Option (Mem × α)} (h : kd q = 12) (hn : ln q = n) (hi : inR i n = true) (d : decode cc pc = .ok (.bastore, 1)) (kk : ∀ σ2 : Mem, V l E own cc nL rt R cells slots Z rv (body σ2) σ2 (pc + 1) lv st) : V l E own cc nL rt R cells slots Z rv (lm (up σ q (ix i) (vp_nar .boolean x)) body) σ pc lv (.int x :: .int i :: .ref (eAd E q) :: st) := by
  intro σ' r hr p e s m args below meth c H locs ls F hP hS hl
  have K := fun H1 locs1 a b => kk (up σ q (ix i) (vp_nar .boolean x)) σ' r hr p e s m args below meth c H1 locs1 ls F a b hl
  obtain ⟨hx, hb, -, -, -, hown, hts, hE⟩ := F
  have hq := kd_lt h (by decide)
  refine va_zast hx hb hE.1 hP (Wd_D hE.2.2.1 σ) hS q 2 (by rw [Wd_get hq, ce_12 h]) rfl (by rw [hn]; exact inR_vp hi) d (fun H1 locs1 hP1 _ hS1 => K H1 locs1 ?_ hS1)
  rw [Wd_set (σ' := up σ q (ix i) (vp_nar .boolean x)) hq (by rw [ce_12 h, up_at]) (fun j hj => up_ne hj)] at hP1
  exact hP1
theorem v_alenI {q : Nat} {v : Int32} (h : kd q = 11) (hn : Int32.ofNat (ln q) = v) (d : decode cc pc = .ok (.arraylength, 1)) (kk : V l E own cc nL rt R cells slots Z rv res σ (pc + 1) lv (.int v :: st)) : V l E own cc nL rt R cells slots Z rv res σ pc lv (.ref (eAd E q) :: st) := by
  intro σ' r hr p e s m args below meth c H locs ls F hP hS hl
  have K := kk σ' r hr p e s m args below meth c H locs ls F hP hS hl
  obtain ⟨hx, hb, -, -, -, hown, hts, hE⟩ := F
  exact va_alen hx hb hE.1 hP q 1 (by rw [Wd_get (kd_lt h (by decide)), ce_11 h]) (ty := .int) rfl hn d K
theorem v_aldN {i : Int32} (hi : inR i 16 = true) (d : decode cc pc = .ok (.aaload, 1)) (kk : V l E own cc nL rt R cells slots Z rv res σ (pc + 1) lv (.ref (eAd E (6 + 2 * ix i)) :: st)) : V l E own cc nL rt R cells slots Z rv res σ pc lv (.int i :: .ref (eAd E 4) :: st) := by
  intro σ' r hr p e s m args below meth c H locs ls F hP hS hl
  have K := kk σ' r hr p e s m args below meth c H locs ls F hP hS hl
  obtain ⟨hx, hb, -, -, -, hown, hts, hE⟩ := F
  exact va_aldq (C := "BenchOrders$Node") (f := fun j => some (eAd E (6 + 2 * j))) hx hb hE.1 hP 4 3 (by rw [Wd_get (show 4 < 124 by decide), ce_13 (show kd 4 = 13 from rfl)]) rfl (inR_vp hi) d K
theorem v_aldS {i : Int32} (hi : inR i 5 = true) (d : decode cc pc = .ok (.aaload, 1)) (kk : V l E own cc nL rt R cells slots Z rv res σ (pc + 1) lv (.ref (eAd E (ix (σ 55 (ix i)))) :: st)) : V l E own cc nL rt R cells slots Z rv res σ pc lv (.int i :: .ref (eAd E 55) :: st) := by
  intro σ' r hr p e s m args below meth c H locs ls F hP hS hl
  have K := kk σ' r hr p e s m args below meth c H locs ls F hP hS hl
  obtain ⟨hx, hb, -, -, -, hown, hts, hE⟩ := F
  exact va_aldq (C := "BenchOrders$State") (f := fun j => some (eAd E (ix (σ 55 j)))) hx hb hE.1 hP 55 4 (by rw [Wd_get (show 55 < 124 by decide), ce_14 (show kd 55 = 14 from rfl)]) rfl (inR_vp hi) d K
theorem v_astS {i : Int32} {q : Nat} {body : Mem → Option (Mem × α)} (hs : isSt q = true) (hi : inR i 5 = true) (d : decode cc pc = .ok (.aastore, 1)) (kk : ∀ σ2 : Mem, V l E own cc nL rt R cells slots Z rv (body σ2) σ2 (pc + 1) lv st) : V l E own cc nL rt R cells slots Z rv (lm (up σ 55 (ix i) (nI q)) body) σ pc lv (.ref (eAd E q) :: .int i :: .ref (eAd E 55) :: st) := by
  intro σ' r hr p e s m args below meth c H locs ls F hP hS hl
  have K := fun H1 locs1 a b => kk (up σ 55 (ix i) (nI q)) σ' r hr p e s m args below meth c H1 locs1 ls F a b hl
  obtain ⟨hx, hb, -, -, -, hown, hts, hE⟩ := F
  have hq : q < 124 := kd_lt (kst hs) (by decide)
  have e1 : (nI q).toNatClampNeg = q := nI_clamp (by omega)
  refine va_astq hx hb hE.1 hP (Wd_D hE.2.2.1 σ) hS 55 4 q 3 (r := (RX3, TX3, 17)) (by rw [Wd_get (show 55 < 124 by decide), ce_14 (show kd 55 = 14 from rfl)]) rfl (by rw [Wd_get hq, ce_3 (kst hs)]) rfl (inR_vp hi) d (fun H1 locs1 hP1 _ hS1 => K H1 locs1 ?_ hS1)
  rw [Wd_set (σ' := up σ 55 (ix i) (nI q)) (show 55 < 124 by decide) (x := _) ?_ (fun j hj => up_ne hj)] at hP1
  · exact hP1
  · rw [ce_14 (show kd 55 = 14 from rfl), up_at]
    congr 7
    funext j
    by_cases hj : j = ix i
    · subst hj
      simp [upd, va_up, e1]
    · simp [upd, va_up, hj]
theorem call_go {p : Program} {e : Env} {s : State} {m : MethodId} {args : Array Value} {below : List Frame} {meth : Method} {c : Code} {H : Heap} {locs : List Loc} {ls : Array Slot} {st0 rest : List Value} {σ1 : Mem} {v : Option Value} {a : Array Value} {Q : State → Prop} (hr : va_Run p l e R s m args below meth c H locs cells slots 0 0 (F0 m pc ls st0) rest (Qm E σ1 v a) (eA E)) (hS : va_S (eA E) s.heap H locs) (kk : ∀ (H1 : Heap) (locs1 : List Loc), va_P (eD E) vwCl (Wd E σ1) H1 → va_S (eA E) s.heap H1 locs1 → W p l e R s m args below meth c H1 locs1 cells slots Q (F0 m (pc + 3) ls (v.toList ++ rest))) : W p l e R s m args below meth c H locs cells slots Q (F0 m pc ls st0) := by
  intro T hT X
  obtain ⟨v', st₀, t, T', L, h0, X', hL, e1, e2, ⟨hv, hp, hz, hk⟩, st⟩ := hr T hT X
  cases hv
  rw [h0] at hz hk
  obtain ⟨t2, a1, b1⟩ := kk T'.heap (locs ++ L) (by rw [e1]; exact hp)
    ⟨Nat.le_trans hS.1 (by rw [e1]; exact hz), fun q h1 h2 => by rw [e1, hk q (Nat.lt_of_lt_of_le h1 hS.1) h2]; exact hS.2.1 q h1 h2, fun q hq => by
      rcases List.mem_append.mp hq with h | h
      · exact hS.2.2 q h
      · exact hL q h⟩ T' rfl X'
  exact ⟨t2, st t2 a1, b1⟩
theorem v_callV {β : Type} {rv1 : β → Option Value} {res1 : Option (Mem × β)} {body : Mem → β → Option (Mem × α)} {y : MethodName} {bytes : ByteArray} {maxL index n q ci : Nat} {ret : Option FieldType} {rm : Room} {C : String} {T : u_T} {NN : Nat} {As rest st0 : List Value}
    (hM : CT l E y bytes maxL ret rm rv1 res1 (.ref (eAd E q) :: As) σ) (hC : CalV y bytes maxL ret C n) (hq : kd q = ci) (hci : ci < 10) (hc : vwCl[ci]? = some (C, T, NN)) (hl : Cond.methodLink own index y ∈ tb) (hrm : rm.cells = 0 ∧ rm.slots = 0) (hR : rm.frames + 1 ≤ R.frames ∧ 8 + (maxL + 11) + rm.locals ≤ R.locals) (hcs : cells ≤ R.cells ∧ slots ≤ R.slots) (hn : As.length = n) (hst : st0 = As.reverse ++ .ref (eAd E q) :: rest) (hw : (rest.map fun v => v.category).sum ≤ 8) (d : decode cc pc = .ok (.invokevirtual index, 3))
    (kk : ∀ (σ1 : Mem) (r1 : β), V l E own cc nL rt R cells slots Z rv (body σ1 r1) σ1 (pc + 3) lv ((rv1 r1).toList ++ rest)) : V l E own cc nL rt R cells slots Z rv (bm res1 body) σ pc lv st0 := by
  intro σ' r hr p e s m args below meth c H locs ls F hP hS hlv
  cases hres : res1 with
  | none => rw [hres] at hr; cases hr
  | some pr =>
    obtain ⟨σ1, r1⟩ := pr
    rw [hres] at hr
    have K := fun H1 locs1 a b => kk σ1 r1 σ' r hr p e s m args below meth c H1 locs1 ls F a b hlv
    have hMet := hM σ1 r1 hres
    obtain ⟨hx, hb, hml, -, -, hown, hts, hE⟩ := F
    obtain ⟨c1, c2, c3, c4, c5⟩ := hC
    obtain ⟨fs, hfs⟩ := ce_obj (E := E) (f := σ q) hq hci
    refine call_go (va_runV (As := As) (rest := rest) (b := eAd E q) (C := C) (bytes := bytes) (maxL := maxL) (ret := ret) (index := index) (n := n) ⟨hx, hb, hml, hown, hts⟩ hMet ⟨callB_of n hts (good_code c4) rfl hrm.1 hrm.2 (hts _ c3) (hts _ hl) c5 hR, hts _ c1, hts _ c2⟩ ⟨Pre_blind, va_recv hE.1 hP hc (by rw [Wd_get (kd_lt hq (by omega)), hfs]), fun U hU hW => ⟨rfl, hE.move hS hU hW, by rw [hU]; exact hP⟩⟩ rfl hn hlv.1 hst (lv_room hw) d ⟨hcs.1, hcs.2⟩) hS K
theorem v_callS {β : Type} {rv1 : β → Option Value} {res1 : Option (Mem × β)} {body : Mem → β → Option (Mem × α)} {y : MethodName} {bytes : ByteArray} {maxL index n : Nat} {ret : Option FieldType} {rm : Room} {As rest st0 : List Value}
    (hM : CT l E y bytes maxL ret rm rv1 res1 As σ) (hC : CalS y bytes maxL ret n) (hl : Cond.methodLink own index y ∈ tb) (hrm : rm.cells = 0 ∧ rm.slots = 0) (hR : rm.frames + 1 ≤ R.frames ∧ 8 + (maxL + 11) + rm.locals ≤ R.locals) (hcs : cells ≤ R.cells ∧ slots ≤ R.slots) (hn : As.length = n) (hst : st0 = As.reverse ++ rest) (hw : (rest.map fun v => v.category).sum ≤ 8) (d : decode cc pc = .ok (.invokestatic index, 3))
    (kk : ∀ (σ1 : Mem) (r1 : β), V l E own cc nL rt R cells slots Z rv (body σ1 r1) σ1 (pc + 3) lv ((rv1 r1).toList ++ rest)) : V l E own cc nL rt R cells slots Z rv (bm res1 body) σ pc lv st0 := by
  intro σ' r hr p e s m args below meth c H locs ls F hP hS hlv
  cases hres : res1 with
  | none => rw [hres] at hr; cases hr
  | some pr =>
    obtain ⟨σ1, r1⟩ := pr
    rw [hres] at hr
    have K := fun H1 locs1 a b => kk σ1 r1 σ' r hr p e s m args below meth c H1 locs1 ls F a b hlv
    have hMet := hM σ1 r1 hres
    obtain ⟨hx, hb, hml, -, -, hown, hts, hE⟩ := F
    obtain ⟨c1, c3, c4, c5⟩ := hC
    refine call_go (va_runS (As := As) (rest := rest) (bytes := bytes) (maxL := maxL) (ret := ret) (index := index) (n := n) ⟨hx, hb, hml, hown, hts⟩ hMet ⟨callB_of n hts (good_code c4) rfl hrm.1 hrm.2 (hts _ c3) (hts _ hl) c5 hR, hts _ c1⟩ ⟨Pre_blind, fun U hU hW => ⟨rfl, hE.move hS hU hW, by rw [hU]; exact hP⟩⟩ rfl hn hlv.1 hst (lv_room hw) d ⟨hcs.1, hcs.2⟩) hS K
theorem v_callSN {β : Type} {rv1 : β → Option Value} {res1 : Option (Mem × β)} {body : Mem → β → Option (Mem × α)} {y : MethodName} {bytes : ByteArray} {maxL index n : Nat} {host : String} {ret : Option FieldType} {rm : Room} {As rest st0 : List Value}
    (hM : CT l E y bytes maxL ret rm rv1 res1 As σ) (hC : CalS y bytes maxL ret n) (hl : Cond.methodLinkNest own index y host ∈ lw_tbl) (hrm : rm.cells = 0 ∧ rm.slots = 0) (hR : rm.frames + 1 ≤ R.frames ∧ 8 + (maxL + 11) + rm.locals ≤ R.locals) (hcs : cells ≤ R.cells ∧ slots ≤ R.slots) (hn : As.length = n) (hst : st0 = As.reverse ++ rest) (hw : (rest.map fun v => v.category).sum ≤ 8) (d : decode cc pc = .ok (.invokestatic index, 3))
    (kk : ∀ (σ1 : Mem) (r1 : β), V l E own cc nL rt R cells slots Z rv (body σ1 r1) σ1 (pc + 3) lv ((rv1 r1).toList ++ rest)) : V l E own cc nL rt R cells slots Z rv (bm res1 body) σ pc lv st0 := by
  intro σ' r hr p e s m args below meth c H locs ls F hP hS hlv
  cases hres : res1 with
  | none => rw [hres] at hr; cases hr
  | some pr =>
    obtain ⟨σ1, r1⟩ := pr
    rw [hres] at hr
    have K := fun H1 locs1 a b => kk σ1 r1 σ' r hr p e s m args below meth c H1 locs1 ls F a b hlv
    have hMet := hM σ1 r1 hres
    obtain ⟨hx, hb, hml, -, -, hown, hts, hE⟩ := F
    obtain ⟨c1, c3, c4, c5⟩ := hC
    refine call_go (va_runSN (As := As) (rest := rest) (bytes := bytes) (maxL := maxL) (ret := ret) (index := index) (n := n) (host := host) ⟨hx, hb, hml, hown, hts⟩ hMet ⟨va_cnB n hts (good_code c4) rfl hrm.1 hrm.2 (hE.2.1 _ hl rfl) (hts _ c3) c5 hR, hts _ c1, trivial⟩ ⟨Pre_blind, fun U hU hW => ⟨rfl, hE.move hS hU hW, by rw [hU]; exact hP⟩⟩ rfl hn hlv.1 hst (lv_room hw) d ⟨hcs.1, hcs.2⟩) hS K
theorem nar_B {x : Int32} (h : isB x = true) : narrow .boolean (.int x) = .int x := by
  rcases of_decide_eq_true h with h | h <;> subst h <;> rfl
theorem fit_B {x : Int32} (h : isB x = true) : fits .boolean (.int x) = true := by
  rcases of_decide_eq_true h with h | h <;> subst h <;> rfl
theorem v_iret {x : Int32} (d : decode cc pc = .ok (.ireturn, 1)) : V l E own cc nL (some .int) R 0 0 (Zm E) rvI (some (σ, x)) σ pc lv [.int x] := by
  intro σ' r hr p e s m args below meth c H locs ls F hP hS hl
  cases hr
  obtain ⟨hx, hb, -, hrt, hlk, -⟩ := F
  exact W.iret hx hb hrt (fun t ht hW => ⟨rfl, by rw [ht]; exact hP, hS.F ht⟩) hS.2.2 d hlk
theorem v_zret {x : Int32} (hB : isB x = true) (d : decode cc pc = .ok (.ireturn, 1)) : V l E own cc nL (some .boolean) R 0 0 (Zm E) rvI (some (σ, x)) σ pc lv [.int x] := by
  intro σ' r hr p e s m args below meth c H locs ls F hP hS hl
  cases hr
  obtain ⟨hx, hb, -, hrt, hlk, -⟩ := F
  exact W.zret hx hb hrt (nar_B hB) (fun t ht hW => ⟨rfl, by rw [ht]; exact hP, hS.F ht⟩) hS.2.2 d hlk
theorem v_vret (d : decode cc pc = .ok (.return_, 1)) : V l E own cc nL none R 0 0 (Zm E) rvV (some (σ, ())) σ pc lv [] := by
  intro σ' r hr p e s m args below meth c H locs ls F hP hS hl
  cases hr
  obtain ⟨hx, hb, -, hrt, hlk, -⟩ := F
  exact W.vret hx hb hrt (fun t ht hW => ⟨rfl, by rw [ht]; exact hP, hS.F ht⟩) hS.2.2 d hlk
theorem v_lret {x : Int64} (d : decode cc pc = .ok (.lreturn, 1)) : V l E own cc nL (some .long) R 0 0 (Zm E) rvL (some (σ, x)) σ pc lv [.long x] := by
  intro σ' r hr p e s m args below meth c H locs ls F hP hS hl
  cases hr
  obtain ⟨hx, hb, -, hrt, hlk, -⟩ := F
  exact W.lret hx hb hrt (fun t ht hW => ⟨rfl, by rw [ht]; exact hP, hS.F ht⟩) hS.2.2 d hlk

theorem v_iadd {x y : Int32} (d : decode cc pc = .ok (.iadd, 1)) (k : V l E own cc nL rt R cells slots Z rv res σ (pc + 1) lv (.int (x + y) :: st)) : V l E own cc nL rt R cells slots Z rv res σ pc lv (.int y :: .int x :: st) := by
  intro σ' r hr p e s m args below meth c H locs ls F hP hS hl
  exact lv_iadd F.1 F.2.1 d (k σ' r hr p e s m args below meth c H locs ls F hP hS hl)

theorem v_isub {x y : Int32} (d : decode cc pc = .ok (.isub, 1)) (k : V l E own cc nL rt R cells slots Z rv res σ (pc + 1) lv (.int (x - y) :: st)) : V l E own cc nL rt R cells slots Z rv res σ pc lv (.int y :: .int x :: st) := by
  intro σ' r hr p e s m args below meth c H locs ls F hP hS hl
  exact lv_isub F.1 F.2.1 d (k σ' r hr p e s m args below meth c H locs ls F hP hS hl)

theorem v_imul {x y : Int32} (d : decode cc pc = .ok (.imul, 1)) (k : V l E own cc nL rt R cells slots Z rv res σ (pc + 1) lv (.int (x * y) :: st)) : V l E own cc nL rt R cells slots Z rv res σ pc lv (.int y :: .int x :: st) := by
  intro σ' r hr p e s m args below meth c H locs ls F hP hS hl
  exact lv_imul F.1 F.2.1 d (k σ' r hr p e s m args below meth c H locs ls F hP hS hl)

theorem v_iand {x y : Int32} (d : decode cc pc = .ok (.iand, 1)) (k : V l E own cc nL rt R cells slots Z rv res σ (pc + 1) lv (.int (x &&& y) :: st)) : V l E own cc nL rt R cells slots Z rv res σ pc lv (.int y :: .int x :: st) := by
  intro σ' r hr p e s m args below meth c H locs ls F hP hS hl
  exact lv_iand F.1 F.2.1 d (k σ' r hr p e s m args below meth c H locs ls F hP hS hl)

theorem v_ior {x y : Int32} (d : decode cc pc = .ok (.ior, 1)) (k : V l E own cc nL rt R cells slots Z rv res σ (pc + 1) lv (.int (x ||| y) :: st)) : V l E own cc nL rt R cells slots Z rv res σ pc lv (.int y :: .int x :: st) := by
  intro σ' r hr p e s m args below meth c H locs ls F hP hS hl
  exact lv_ior F.1 F.2.1 d (k σ' r hr p e s m args below meth c H locs ls F hP hS hl)

theorem v_ixor {x y : Int32} (d : decode cc pc = .ok (.ixor, 1)) (k : V l E own cc nL rt R cells slots Z rv res σ (pc + 1) lv (.int (x ^^^ y) :: st)) : V l E own cc nL rt R cells slots Z rv res σ pc lv (.int y :: .int x :: st) := by
  intro σ' r hr p e s m args below meth c H locs ls F hP hS hl
  exact lv_ixor F.1 F.2.1 d (k σ' r hr p e s m args below meth c H locs ls F hP hS hl)

theorem v_ishl {x y : Int32} (d : decode cc pc = .ok (.ishl, 1)) (k : V l E own cc nL rt R cells slots Z rv res σ (pc + 1) lv (.int (x <<< (y &&& 31)) :: st)) : V l E own cc nL rt R cells slots Z rv res σ pc lv (.int y :: .int x :: st) := by
  intro σ' r hr p e s m args below meth c H locs ls F hP hS hl
  exact lv_ishl F.1 F.2.1 d (k σ' r hr p e s m args below meth c H locs ls F hP hS hl)

theorem v_ishr {x y : Int32} (d : decode cc pc = .ok (.ishr, 1)) (k : V l E own cc nL rt R cells slots Z rv res σ (pc + 1) lv (.int (x >>> (y &&& 31)) :: st)) : V l E own cc nL rt R cells slots Z rv res σ pc lv (.int y :: .int x :: st) := by
  intro σ' r hr p e s m args below meth c H locs ls F hP hS hl
  exact lv_ishr F.1 F.2.1 d (k σ' r hr p e s m args below meth c H locs ls F hP hS hl)

theorem v_idiv {x y : Int32} (d : decode cc pc = .ok (.idiv, 1)) (hne : ¬ y = 0) (k : V l E own cc nL rt R cells slots Z rv res σ (pc + 1) lv (.int (x / y) :: st)) : V l E own cc nL rt R cells slots Z rv res σ pc lv (.int y :: .int x :: st) := by
  intro σ' r hr p e s m args below meth c H locs ls F hP hS hl
  exact lv_idiv F.1 F.2.1 d hne (k σ' r hr p e s m args below meth c H locs ls F hP hS hl)

theorem v_irem {x y : Int32} (d : decode cc pc = .ok (.irem, 1)) (hne : ¬ y = 0) (k : V l E own cc nL rt R cells slots Z rv res σ (pc + 1) lv (.int (x - x / y * y) :: st)) : V l E own cc nL rt R cells slots Z rv res σ pc lv (.int y :: .int x :: st) := by
  intro σ' r hr p e s m args below meth c H locs ls F hP hS hl
  exact lv_irem F.1 F.2.1 d hne (k σ' r hr p e s m args below meth c H locs ls F hP hS hl)

theorem v_ineg {x : Int32} (d : decode cc pc = .ok (.ineg, 1)) (k : V l E own cc nL rt R cells slots Z rv res σ (pc + 1) lv (.int (-x) :: st)) : V l E own cc nL rt R cells slots Z rv res σ pc lv (.int x :: st) := by
  intro σ' r hr p e s m args below meth c H locs ls F hP hS hl
  exact lv_ineg F.1 F.2.1 d (k σ' r hr p e s m args below meth c H locs ls F hP hS hl)

theorem v_i2b {x : Int32} (d : decode cc pc = .ok (.i2b, 1)) (k : V l E own cc nL rt R cells slots Z rv res σ (pc + 1) lv (.int (x.toInt8.toInt32) :: st)) : V l E own cc nL rt R cells slots Z rv res σ pc lv (.int x :: st) := by
  intro σ' r hr p e s m args below meth c H locs ls F hP hS hl
  exact lv_i2b F.1 F.2.1 d rfl (k σ' r hr p e s m args below meth c H locs ls F hP hS hl)

theorem v_i2l {x : Int32} (d : decode cc pc = .ok (.i2l, 1)) (k : V l E own cc nL rt R cells slots Z rv res σ (pc + 1) lv (.long (x.toInt64) :: st)) : V l E own cc nL rt R cells slots Z rv res σ pc lv (.int x :: st) := by
  intro σ' r hr p e s m args below meth c H locs ls F hP hS hl
  exact lv_i2l F.1 F.2.1 d rfl (k σ' r hr p e s m args below meth c H locs ls F hP hS hl)

theorem v_ladd {x y : Int64} (d : decode cc pc = .ok (.ladd, 1)) (k : V l E own cc nL rt R cells slots Z rv res σ (pc + 1) lv (.long (x + y) :: st)) : V l E own cc nL rt R cells slots Z rv res σ pc lv (.long y :: .long x :: st) := by
  intro σ' r hr p e s m args below meth c H locs ls F hP hS hl
  exact lv_ladd F.1 F.2.1 d (k σ' r hr p e s m args below meth c H locs ls F hP hS hl)

theorem v_lmul {x y : Int64} (d : decode cc pc = .ok (.lmul, 1)) (k : V l E own cc nL rt R cells slots Z rv res σ (pc + 1) lv (.long (x * y) :: st)) : V l E own cc nL rt R cells slots Z rv res σ pc lv (.long y :: .long x :: st) := by
  intro σ' r hr p e s m args below meth c H locs ls F hP hS hl
  exact lv_lmul F.1 F.2.1 d (k σ' r hr p e s m args below meth c H locs ls F hP hS hl)

theorem v_lcmp {x y : Int64} (d : decode cc pc = .ok (.lcmp, 1)) (k : V l E own cc nL rt R cells slots Z rv res σ (pc + 1) lv (.int (lg_cmp x y) :: st)) : V l E own cc nL rt R cells slots Z rv res σ pc lv (.long y :: .long x :: st) := by
  intro σ' r hr p e s m args below meth c H locs ls F hP hS hl
  exact W.lcmp F.1 F.2.1 d (k σ' r hr p e s m args below meth c H locs ls F hP hS hl)

theorem v_iconst {n : Int} {v : Int32} (d : decode cc pc = .ok (.iconst n, 1)) (hv : Int32.ofInt n = v) (k : V l E own cc nL rt R cells slots Z rv res σ (pc + 1) lv (.int v :: st)) : V l E own cc nL rt R cells slots Z rv res σ pc lv (st) := by
  intro σ' r hr p e s m args below meth c H locs ls F hP hS hl
  exact lv_iconst F.1 F.2.1 d hv (k σ' r hr p e s m args below meth c H locs ls F hP hS hl)

theorem v_bipush {n : Int} {v : Int32} (d : decode cc pc = .ok (.bipush n, 2)) (hv : (Int8.ofInt n).toInt32 = v) (k : V l E own cc nL rt R cells slots Z rv res σ (pc + 2) lv (.int v :: st)) : V l E own cc nL rt R cells slots Z rv res σ pc lv (st) := by
  intro σ' r hr p e s m args below meth c H locs ls F hP hS hl
  exact lv_bipush F.1 F.2.1 d hv (k σ' r hr p e s m args below meth c H locs ls F hP hS hl)

theorem v_sipush {n : Int} {v : Int32} (d : decode cc pc = .ok (.sipush n, 3)) (hv : (Int16.ofInt n).toInt32 = v) (k : V l E own cc nL rt R cells slots Z rv res σ (pc + 3) lv (.int v :: st)) : V l E own cc nL rt R cells slots Z rv res σ pc lv (st) := by
  intro σ' r hr p e s m args below meth c H locs ls F hP hS hl
  exact lv_sipush F.1 F.2.1 d hv (k σ' r hr p e s m args below meth c H locs ls F hP hS hl)

theorem v_dup {va : Value} (d : decode cc pc = .ok (.dup, 1)) (hva : va.category = 1) (k : V l E own cc nL rt R cells slots Z rv res σ (pc + 1) lv (va :: va :: st)) : V l E own cc nL rt R cells slots Z rv res σ pc lv (va :: st) := by
  intro σ' r hr p e s m args below meth c H locs ls F hP hS hl
  exact lv_dup F.1 F.2.1 d hva (k σ' r hr p e s m args below meth c H locs ls F hP hS hl)

theorem v_pop {va : Value} (d : decode cc pc = .ok (.pop, 1)) (hva : va.category = 1) (k : V l E own cc nL rt R cells slots Z rv res σ (pc + 1) lv (st)) : V l E own cc nL rt R cells slots Z rv res σ pc lv (va :: st) := by
  intro σ' r hr p e s m args below meth c H locs ls F hP hS hl
  exact lv_pop F.1 F.2.1 d hva (k σ' r hr p e s m args below meth c H locs ls F hP hS hl)

theorem v_dup_x1 {va vb : Value} (d : decode cc pc = .ok (.dup_x1, 1)) (hva : va.category = 1) (hvb : vb.category = 1) (k : V l E own cc nL rt R cells slots Z rv res σ (pc + 1) lv (va :: vb :: va :: st)) : V l E own cc nL rt R cells slots Z rv res σ pc lv (va :: vb :: st) := by
  intro σ' r hr p e s m args below meth c H locs ls F hP hS hl
  exact lv_dup_x1 F.1 F.2.1 d hva hvb (k σ' r hr p e s m args below meth c H locs ls F hP hS hl)

theorem v_dup_x2 {va vb vd : Value} (d : decode cc pc = .ok (.dup_x2, 1)) (hva : va.category = 1) (hvb : vb.category = 1) (hvd : vd.category = 1) (k : V l E own cc nL rt R cells slots Z rv res σ (pc + 1) lv (va :: vb :: vd :: va :: st)) : V l E own cc nL rt R cells slots Z rv res σ pc lv (va :: vb :: vd :: st) := by
  intro σ' r hr p e s m args below meth c H locs ls F hP hS hl
  exact lv_dup_x2 F.1 F.2.1 d hva hvb hvd (k σ' r hr p e s m args below meth c H locs ls F hP hS hl)

theorem v_dup2 {va vb : Value} (d : decode cc pc = .ok (.dup2, 1)) (hva : va.category = 1) (hvb : vb.category = 1) (k : V l E own cc nL rt R cells slots Z rv res σ (pc + 1) lv (va :: vb :: va :: vb :: st)) : V l E own cc nL rt R cells slots Z rv res σ pc lv (va :: vb :: st) := by
  intro σ' r hr p e s m args below meth c H locs ls F hP hS hl
  exact lv_dup2_11 F.1 F.2.1 d hva hvb (k σ' r hr p e s m args below meth c H locs ls F hP hS hl)

theorem v_iload_n {k0 : Fin 4} {i : Nat} {x : Int32} (d : decode cc pc = .ok (.iload_n k0, 1)) (hi : (k0 : Nat) = i) (j : Nat) (hj : lv[j]? = some (i, .int x)) (k : V l E own cc nL rt R cells slots Z rv res σ (pc + 1) lv (.int x :: st)) : V l E own cc nL rt R cells slots Z rv res σ pc lv st := by
  intro σ' r hr p e s m args below meth c H locs ls F hP hS hl
  exact lv_iload_n F.1 F.2.1 d hi (lv_at hl j hj) (k σ' r hr p e s m args below meth c H locs ls F hP hS hl)

theorem v_iload {i : Nat} {x : Int32} (d : decode cc pc = .ok (.iload i, 2)) (j : Nat) (hj : lv[j]? = some (i, .int x)) (k : V l E own cc nL rt R cells slots Z rv res σ (pc + 2) lv (.int x :: st)) : V l E own cc nL rt R cells slots Z rv res σ pc lv st := by
  intro σ' r hr p e s m args below meth c H locs ls F hP hS hl
  exact lv_iload F.1 F.2.1 d (lv_at hl j hj) (k σ' r hr p e s m args below meth c H locs ls F hP hS hl)

theorem v_lload_n {k0 : Fin 4} {i : Nat} {x : Int64} (d : decode cc pc = .ok (.lload_n k0, 1)) (hi : (k0 : Nat) = i) (j : Nat) (hj : lv[j]? = some (i, .long x)) (k : V l E own cc nL rt R cells slots Z rv res σ (pc + 1) lv (.long x :: st)) : V l E own cc nL rt R cells slots Z rv res σ pc lv st := by
  intro σ' r hr p e s m args below meth c H locs ls F hP hS hl
  exact lv_lload_n F.1 F.2.1 d hi (lv_at hl j hj) (k σ' r hr p e s m args below meth c H locs ls F hP hS hl)

theorem v_lload {i : Nat} {x : Int64} (d : decode cc pc = .ok (.lload i, 2)) (j : Nat) (hj : lv[j]? = some (i, .long x)) (k : V l E own cc nL rt R cells slots Z rv res σ (pc + 2) lv (.long x :: st)) : V l E own cc nL rt R cells slots Z rv res σ pc lv st := by
  intro σ' r hr p e s m args below meth c H locs ls F hP hS hl
  exact lv_lload F.1 F.2.1 d (lv_at hl j hj) (k σ' r hr p e s m args below meth c H locs ls F hP hS hl)

theorem v_aload_n {k0 : Fin 4} {i : Nat} {x : Nat} (d : decode cc pc = .ok (.aload_n k0, 1)) (hi : (k0 : Nat) = i) (j : Nat) (hj : lv[j]? = some (i, .ref x)) (k : V l E own cc nL rt R cells slots Z rv res σ (pc + 1) lv (.ref x :: st)) : V l E own cc nL rt R cells slots Z rv res σ pc lv st := by
  intro σ' r hr p e s m args below meth c H locs ls F hP hS hl
  exact lv_aload_n F.1 F.2.1 d hi (lv_at hl j hj) (k σ' r hr p e s m args below meth c H locs ls F hP hS hl)

theorem v_aload {i : Nat} {x : Nat} (d : decode cc pc = .ok (.aload i, 2)) (j : Nat) (hj : lv[j]? = some (i, .ref x)) (k : V l E own cc nL rt R cells slots Z rv res σ (pc + 2) lv (.ref x :: st)) : V l E own cc nL rt R cells slots Z rv res σ pc lv st := by
  intro σ' r hr p e s m args below meth c H locs ls F hP hS hl
  exact lv_aload F.1 F.2.1 d (lv_at hl j hj) (k σ' r hr p e s m args below meth c H locs ls F hP hS hl)

theorem v_istore_n {k0 : Fin 4} {i : Nat} {x : Int32} {lv' : List (Nat × Value)} (d : decode cc pc = .ok (.istore_n k0, 1)) (hi : (k0 : Nat) = i) (hn : i < nL) (hlv : (i, Value.int x) :: lv.filter (fun q => !(q.1 == i) && !(q.1 + 1 == i && q.2.category == 2)) = lv') (k : V l E own cc nL rt R cells slots Z rv res σ (pc + 1) lv' st) : V l E own cc nL rt R cells slots Z rv res σ pc lv (.int x :: st) := by
  intro σ' r hr p e s m args below meth c H locs ls F hP hS hl
  exact lv_istore_n F.1 F.2.1 d hi hl hn hlv (fun ls1 hl1 => k σ' r hr p e s m args below meth c H locs ls1 F hP hS hl1)

theorem v_istore {i : Nat} {x : Int32} {lv' : List (Nat × Value)} (d : decode cc pc = .ok (.istore i, 2)) (hn : i < nL) (hlv : (i, Value.int x) :: lv.filter (fun q => !(q.1 == i) && !(q.1 + 1 == i && q.2.category == 2)) = lv') (k : V l E own cc nL rt R cells slots Z rv res σ (pc + 2) lv' st) : V l E own cc nL rt R cells slots Z rv res σ pc lv (.int x :: st) := by
  intro σ' r hr p e s m args below meth c H locs ls F hP hS hl
  exact lv_istore F.1 F.2.1 d hl hn hlv (fun ls1 hl1 => k σ' r hr p e s m args below meth c H locs ls1 F hP hS hl1)

theorem v_lstore_n {k0 : Fin 4} {i : Nat} {x : Int64} {lv' : List (Nat × Value)} (d : decode cc pc = .ok (.lstore_n k0, 1)) (hi : (k0 : Nat) = i) (hn : i + 1 < nL) (hlv : (i, Value.long x) :: lv.filter (fun q => !(q.1 == i) && (!(q.1 == i + 1) && !(q.1 + 1 == i && q.2.category == 2))) = lv') (k : V l E own cc nL rt R cells slots Z rv res σ (pc + 1) lv' st) : V l E own cc nL rt R cells slots Z rv res σ pc lv (.long x :: st) := by
  intro σ' r hr p e s m args below meth c H locs ls F hP hS hl
  exact lv_lstore_n F.1 F.2.1 d hi hl hn hlv (fun ls1 hl1 => k σ' r hr p e s m args below meth c H locs ls1 F hP hS hl1)

theorem v_lstore {i : Nat} {x : Int64} {lv' : List (Nat × Value)} (d : decode cc pc = .ok (.lstore i, 2)) (hn : i + 1 < nL) (hlv : (i, Value.long x) :: lv.filter (fun q => !(q.1 == i) && (!(q.1 == i + 1) && !(q.1 + 1 == i && q.2.category == 2))) = lv') (k : V l E own cc nL rt R cells slots Z rv res σ (pc + 2) lv' st) : V l E own cc nL rt R cells slots Z rv res σ pc lv (.long x :: st) := by
  intro σ' r hr p e s m args below meth c H locs ls F hP hS hl
  exact lv_lstore F.1 F.2.1 d hl hn hlv (fun ls1 hl1 => k σ' r hr p e s m args below meth c H locs ls1 F hP hS hl1)

theorem v_astore_n {k0 : Fin 4} {i : Nat} {x : Nat} {lv' : List (Nat × Value)} (d : decode cc pc = .ok (.astore_n k0, 1)) (hi : (k0 : Nat) = i) (hn : i < nL) (hlv : (i, Value.ref x) :: lv.filter (fun q => !(q.1 == i) && !(q.1 + 1 == i && q.2.category == 2)) = lv') (k : V l E own cc nL rt R cells slots Z rv res σ (pc + 1) lv' st) : V l E own cc nL rt R cells slots Z rv res σ pc lv (.ref x :: st) := by
  intro σ' r hr p e s m args below meth c H locs ls F hP hS hl
  exact lv_astore_n F.1 F.2.1 d hi hl hn hlv (fun ls1 hl1 => k σ' r hr p e s m args below meth c H locs ls1 F hP hS hl1)

theorem v_astore {i : Nat} {x : Nat} {lv' : List (Nat × Value)} (d : decode cc pc = .ok (.astore i, 2)) (hn : i < nL) (hlv : (i, Value.ref x) :: lv.filter (fun q => !(q.1 == i) && !(q.1 + 1 == i && q.2.category == 2)) = lv') (k : V l E own cc nL rt R cells slots Z rv res σ (pc + 2) lv' st) : V l E own cc nL rt R cells slots Z rv res σ pc lv (.ref x :: st) := by
  intro σ' r hr p e s m args below meth c H locs ls F hP hS hl
  exact lv_astore F.1 F.2.1 d hl hn hlv (fun ls1 hl1 => k σ' r hr p e s m args below meth c H locs ls1 F hP hS hl1)

theorem v_iinc {i : Nat} {n : Int} {x v : Int32} {lv' : List (Nat × Value)} (d : decode cc pc = .ok (.iinc i n, 3)) (j : Nat) (hj : lv[j]? = some (i, .int x)) (hv : x + Int32.ofInt n = v) (hn : i < nL) (hlv : (i, Value.int v) :: lv.filter (fun q => !(q.1 == i) && !(q.1 + 1 == i && q.2.category == 2)) = lv') (k : V l E own cc nL rt R cells slots Z rv res σ (pc + 3) lv' st) : V l E own cc nL rt R cells slots Z rv res σ pc lv st := by
  intro σ' r hr p e s m args below meth c H locs ls F hP hS hl
  exact lv_iinc F.1 F.2.1 d hl hj hv hn hlv (fun ls1 hl1 => k σ' r hr p e s m args below meth c H locs ls1 F hP hS hl1)

theorem v_goto {off : Int} {tgt : Nat} (d : decode cc pc = .ok (.goto off, 3)) (ht : (pc : Int) + off = (tgt : Int)) (k : V l E own cc nL rt R cells slots Z rv res σ tgt lv st) : V l E own cc nL rt R cells slots Z rv res σ pc lv st := by
  intro σ' r hr p e s m args below meth c H locs ls F hP hS hl
  exact lv_goto F.1 F.2.1 d ht (k σ' r hr p e s m args below meth c H locs ls F hP hS hl)

theorem v_if_eq {x : Int32} {ra rb : Option (Mem × α)} {off : Int} {tgt : Nat} (d : decode cc pc = .ok (.ifCond .eq off, 3)) (ht : (pc : Int) + off = (tgt : Int)) (kt : V l E own cc nL rt R cells slots Z rv ra σ tgt lv st) (kf : V l E own cc nL rt R cells slots Z rv rb σ (pc + 3) lv st) : V l E own cc nL rt R cells slots Z rv (if x = 0 then ra else rb) σ pc lv (.int x :: st) := by
  intro σ' r hr p e s m args below meth c H locs ls F hP hS hl
  exact lv_if_eq F.1 F.2.1 d ht (fun h => kt σ' r (by rw [if_pos h] at hr; exact hr) p e s m args below meth c H locs ls F hP hS hl) (fun h => kf σ' r (by rw [if_neg h] at hr; exact hr) p e s m args below meth c H locs ls F hP hS hl)

theorem v_if_ne {x : Int32} {ra rb : Option (Mem × α)} {off : Int} {tgt : Nat} (d : decode cc pc = .ok (.ifCond .ne off, 3)) (ht : (pc : Int) + off = (tgt : Int)) (kt : V l E own cc nL rt R cells slots Z rv rb σ tgt lv st) (kf : V l E own cc nL rt R cells slots Z rv ra σ (pc + 3) lv st) : V l E own cc nL rt R cells slots Z rv (if x = 0 then ra else rb) σ pc lv (.int x :: st) := by
  intro σ' r hr p e s m args below meth c H locs ls F hP hS hl
  exact lv_if_ne F.1 F.2.1 d ht (fun h => kt σ' r (by rw [if_neg h] at hr; exact hr) p e s m args below meth c H locs ls F hP hS hl) (fun h => kf σ' r (by rw [if_pos h] at hr; exact hr) p e s m args below meth c H locs ls F hP hS hl)

theorem v_if_lt {x : Int32} {ra rb : Option (Mem × α)} {off : Int} {tgt : Nat} (d : decode cc pc = .ok (.ifCond .lt off, 3)) (ht : (pc : Int) + off = (tgt : Int)) (kt : V l E own cc nL rt R cells slots Z rv ra σ tgt lv st) (kf : V l E own cc nL rt R cells slots Z rv rb σ (pc + 3) lv st) : V l E own cc nL rt R cells slots Z rv (if x < 0 then ra else rb) σ pc lv (.int x :: st) := by
  intro σ' r hr p e s m args below meth c H locs ls F hP hS hl
  exact lv_if_lt F.1 F.2.1 d ht (fun h => kt σ' r (by rw [if_pos h] at hr; exact hr) p e s m args below meth c H locs ls F hP hS hl) (fun h => kf σ' r (by rw [if_neg h] at hr; exact hr) p e s m args below meth c H locs ls F hP hS hl)

theorem v_if_ge {x : Int32} {ra rb : Option (Mem × α)} {off : Int} {tgt : Nat} (d : decode cc pc = .ok (.ifCond .ge off, 3)) (ht : (pc : Int) + off = (tgt : Int)) (kt : V l E own cc nL rt R cells slots Z rv ra σ tgt lv st) (kf : V l E own cc nL rt R cells slots Z rv rb σ (pc + 3) lv st) : V l E own cc nL rt R cells slots Z rv (if 0 ≤ x then ra else rb) σ pc lv (.int x :: st) := by
  intro σ' r hr p e s m args below meth c H locs ls F hP hS hl
  exact lv_if_ge F.1 F.2.1 d ht (fun h => kt σ' r (by rw [if_pos h] at hr; exact hr) p e s m args below meth c H locs ls F hP hS hl) (fun h => kf σ' r (by rw [if_neg h] at hr; exact hr) p e s m args below meth c H locs ls F hP hS hl)

theorem v_if_gt {x : Int32} {ra rb : Option (Mem × α)} {off : Int} {tgt : Nat} (d : decode cc pc = .ok (.ifCond .gt off, 3)) (ht : (pc : Int) + off = (tgt : Int)) (kt : V l E own cc nL rt R cells slots Z rv ra σ tgt lv st) (kf : V l E own cc nL rt R cells slots Z rv rb σ (pc + 3) lv st) : V l E own cc nL rt R cells slots Z rv (if 0 < x then ra else rb) σ pc lv (.int x :: st) := by
  intro σ' r hr p e s m args below meth c H locs ls F hP hS hl
  exact lv_if_gt F.1 F.2.1 d ht (fun h => kt σ' r (by rw [if_pos h] at hr; exact hr) p e s m args below meth c H locs ls F hP hS hl) (fun h => kf σ' r (by rw [if_neg h] at hr; exact hr) p e s m args below meth c H locs ls F hP hS hl)

theorem v_if_le {x : Int32} {ra rb : Option (Mem × α)} {off : Int} {tgt : Nat} (d : decode cc pc = .ok (.ifCond .le off, 3)) (ht : (pc : Int) + off = (tgt : Int)) (kt : V l E own cc nL rt R cells slots Z rv ra σ tgt lv st) (kf : V l E own cc nL rt R cells slots Z rv rb σ (pc + 3) lv st) : V l E own cc nL rt R cells slots Z rv (if x ≤ 0 then ra else rb) σ pc lv (.int x :: st) := by
  intro σ' r hr p e s m args below meth c H locs ls F hP hS hl
  exact lv_if_le F.1 F.2.1 d ht (fun h => kt σ' r (by rw [if_pos h] at hr; exact hr) p e s m args below meth c H locs ls F hP hS hl) (fun h => kf σ' r (by rw [if_neg h] at hr; exact hr) p e s m args below meth c H locs ls F hP hS hl)

theorem v_icmp_eq {x y : Int32} {ra rb : Option (Mem × α)} {off : Int} {tgt : Nat} (d : decode cc pc = .ok (.if_icmp .eq off, 3)) (ht : (pc : Int) + off = (tgt : Int)) (kt : V l E own cc nL rt R cells slots Z rv ra σ tgt lv st) (kf : V l E own cc nL rt R cells slots Z rv rb σ (pc + 3) lv st) : V l E own cc nL rt R cells slots Z rv (if x = y then ra else rb) σ pc lv (.int y :: .int x :: st) := by
  intro σ' r hr p e s m args below meth c H locs ls F hP hS hl
  exact lv_icmp_eq F.1 F.2.1 d ht (fun h => kt σ' r (by rw [if_pos h] at hr; exact hr) p e s m args below meth c H locs ls F hP hS hl) (fun h => kf σ' r (by rw [if_neg h] at hr; exact hr) p e s m args below meth c H locs ls F hP hS hl)

theorem v_icmp_ne {x y : Int32} {ra rb : Option (Mem × α)} {off : Int} {tgt : Nat} (d : decode cc pc = .ok (.if_icmp .ne off, 3)) (ht : (pc : Int) + off = (tgt : Int)) (kt : V l E own cc nL rt R cells slots Z rv rb σ tgt lv st) (kf : V l E own cc nL rt R cells slots Z rv ra σ (pc + 3) lv st) : V l E own cc nL rt R cells slots Z rv (if x = y then ra else rb) σ pc lv (.int y :: .int x :: st) := by
  intro σ' r hr p e s m args below meth c H locs ls F hP hS hl
  exact lv_icmp_ne F.1 F.2.1 d ht (fun h => kt σ' r (by rw [if_neg h] at hr; exact hr) p e s m args below meth c H locs ls F hP hS hl) (fun h => kf σ' r (by rw [if_pos h] at hr; exact hr) p e s m args below meth c H locs ls F hP hS hl)

theorem v_icmp_lt {x y : Int32} {ra rb : Option (Mem × α)} {off : Int} {tgt : Nat} (d : decode cc pc = .ok (.if_icmp .lt off, 3)) (ht : (pc : Int) + off = (tgt : Int)) (kt : V l E own cc nL rt R cells slots Z rv ra σ tgt lv st) (kf : V l E own cc nL rt R cells slots Z rv rb σ (pc + 3) lv st) : V l E own cc nL rt R cells slots Z rv (if x < y then ra else rb) σ pc lv (.int y :: .int x :: st) := by
  intro σ' r hr p e s m args below meth c H locs ls F hP hS hl
  exact lv_icmp_lt F.1 F.2.1 d ht (fun h => kt σ' r (by rw [if_pos h] at hr; exact hr) p e s m args below meth c H locs ls F hP hS hl) (fun h => kf σ' r (by rw [if_neg h] at hr; exact hr) p e s m args below meth c H locs ls F hP hS hl)

theorem v_icmp_ge {x y : Int32} {ra rb : Option (Mem × α)} {off : Int} {tgt : Nat} (d : decode cc pc = .ok (.if_icmp .ge off, 3)) (ht : (pc : Int) + off = (tgt : Int)) (kt : V l E own cc nL rt R cells slots Z rv ra σ tgt lv st) (kf : V l E own cc nL rt R cells slots Z rv rb σ (pc + 3) lv st) : V l E own cc nL rt R cells slots Z rv (if y ≤ x then ra else rb) σ pc lv (.int y :: .int x :: st) := by
  intro σ' r hr p e s m args below meth c H locs ls F hP hS hl
  exact lv_icmp_ge F.1 F.2.1 d ht (fun h => kt σ' r (by rw [if_pos h] at hr; exact hr) p e s m args below meth c H locs ls F hP hS hl) (fun h => kf σ' r (by rw [if_neg h] at hr; exact hr) p e s m args below meth c H locs ls F hP hS hl)

theorem v_icmp_gt {x y : Int32} {ra rb : Option (Mem × α)} {off : Int} {tgt : Nat} (d : decode cc pc = .ok (.if_icmp .gt off, 3)) (ht : (pc : Int) + off = (tgt : Int)) (kt : V l E own cc nL rt R cells slots Z rv ra σ tgt lv st) (kf : V l E own cc nL rt R cells slots Z rv rb σ (pc + 3) lv st) : V l E own cc nL rt R cells slots Z rv (if y < x then ra else rb) σ pc lv (.int y :: .int x :: st) := by
  intro σ' r hr p e s m args below meth c H locs ls F hP hS hl
  exact lv_icmp_gt F.1 F.2.1 d ht (fun h => kt σ' r (by rw [if_pos h] at hr; exact hr) p e s m args below meth c H locs ls F hP hS hl) (fun h => kf σ' r (by rw [if_neg h] at hr; exact hr) p e s m args below meth c H locs ls F hP hS hl)

theorem v_icmp_le {x y : Int32} {ra rb : Option (Mem × α)} {off : Int} {tgt : Nat} (d : decode cc pc = .ok (.if_icmp .le off, 3)) (ht : (pc : Int) + off = (tgt : Int)) (kt : V l E own cc nL rt R cells slots Z rv ra σ tgt lv st) (kf : V l E own cc nL rt R cells slots Z rv rb σ (pc + 3) lv st) : V l E own cc nL rt R cells slots Z rv (if x ≤ y then ra else rb) σ pc lv (.int y :: .int x :: st) := by
  intro σ' r hr p e s m args below meth c H locs ls F hP hS hl
  exact lv_icmp_le F.1 F.2.1 d ht (fun h => kt σ' r (by rw [if_pos h] at hr; exact hr) p e s m args below meth c H locs ls F hP hS hl) (fun h => kf σ' r (by rw [if_neg h] at hr; exact hr) p e s m args below meth c H locs ls F hP hS hl)

theorem v_tcase {x k : Int32} {ra rb : Option (Mem × α)} {dflt lo hi off : Int} {offs : Array Int} {len tgt : Nat} (d : decode cc pc = .ok (.tableswitch dflt lo hi offs, len)) (h1 : ¬ k.toInt < lo) (h2 : ¬ hi < k.toInt) (ho : offs[(k.toInt - lo).toNat]? = some off) (ht : (pc : Int) + off = (tgt : Int)) (kt : V l E own cc nL rt R cells slots Z rv ra σ tgt lv st) (kf : ¬ x = k → V l E own cc nL rt R cells slots Z rv rb σ pc lv (.int x :: st)) : V l E own cc nL rt R cells slots Z rv (if x = k then ra else rb) σ pc lv (.int x :: st) := by
  intro σ' r hr
  by_cases h : x = k
  · rw [if_pos h] at hr
    subst h
    intro p e s m args below meth c H locs ls F hP hS hl
    exact lv_tableIn F.1 F.2.1 d h1 h2 ho ht (kt σ' r hr p e s m args below meth c H locs ls F hP hS hl)
  · rw [if_neg h] at hr
    exact kf h σ' r hr
theorem v_tout {x : Int32} {dflt lo hi : Int} {offs : Array Int} {len tgt : Nat} (d : decode cc pc = .ok (.tableswitch dflt lo hi offs, len)) (h : x.toInt < lo ∨ hi < x.toInt) (ht : (pc : Int) + dflt = (tgt : Int)) (k : V l E own cc nL rt R cells slots Z rv res σ tgt lv st) : V l E own cc nL rt R cells slots Z rv res σ pc lv (.int x :: st) := by
  intro σ' r hr p e s m args below meth c H locs ls F hP hS hl
  exact lv_tableOut F.1 F.2.1 d h ht (k σ' r hr p e s m args below meth c H locs ls F hP hS hl)
theorem v_lout {x : Int32} {dflt off : Int} {ps : Array (Int × Int)} {len tgt : Nat} (d : decode cc pc = .ok (.lookupswitch dflt ps, len)) (hp : (ps.toList.zip (ps.toList.drop 1)).all (fun (a, next) => a.1 < next.1) = true) (ho : Op.lookupswitch.offset ps.toList dflt x.toInt = off) (ht : (pc : Int) + off = (tgt : Int)) (k : V l E own cc nL rt R cells slots Z rv res σ tgt lv st) : V l E own cc nL rt R cells slots Z rv res σ pc lv (.int x :: st) := by
  intro σ' r hr p e s m args below meth c H locs ls F hP hS hl
  exact lv_lookup F.1 F.2.1 d hp ho ht (k σ' r hr p e s m args below meth c H locs ls F hP hS hl)
theorem v_lcase {x k : Int32} {ra rb : Option (Mem × α)} {dflt off : Int} {ps : Array (Int × Int)} {len tgt : Nat} (d : decode cc pc = .ok (.lookupswitch dflt ps, len)) (hp : (ps.toList.zip (ps.toList.drop 1)).all (fun (a, next) => a.1 < next.1) = true) (ho : Op.lookupswitch.offset ps.toList dflt k.toInt = off) (ht : (pc : Int) + off = (tgt : Int)) (kt : V l E own cc nL rt R cells slots Z rv ra σ tgt lv st) (kf : ¬ x = k → V l E own cc nL rt R cells slots Z rv rb σ pc lv (.int x :: st)) : V l E own cc nL rt R cells slots Z rv (if x = k then ra else rb) σ pc lv (.int x :: st) := by
  intro σ' r hr
  by_cases h : x = k
  · rw [if_pos h] at hr
    subst h
    intro p e s m args below meth c H locs ls F hP hS hl
    exact lv_lookup F.1 F.2.1 d hp ho ht (kt σ' r hr p e s m args below meth c H locs ls F hP hS hl)
  · rw [if_neg h] at hr
    exact kf h σ' r hr
theorem v_ldc2 {index : Nat} {v : Int64} (hc : Cond.constantLong own index v ∈ tb) (d : decode cc pc = .ok (.ldc2_w index, 3)) (k : V l E own cc nL rt R cells slots Z rv res σ (pc + 3) lv (.long v :: st)) : V l E own cc nL rt R cells slots Z rv res σ pc lv st := by
  intro σ' r hr p e s m args below meth c H locs ls F hP hS hl
  exact lv_ldc2 F.1 F.2.1 F.2.2.2.2.2.1 (F.2.2.2.2.2.2.1 _ hc) d (k σ' r hr p e s m args below meth c H locs ls F hP hS hl)
theorem v_ldcS {i index : Nat} {tx : String} (hi : i < 9) (h1 : skI.getD i 0 = index) (h2 : skT.getD i "" = tx) (ho : own = "BenchOrders$Unit") (d : decode cc pc = .ok (.ldc index, 2)) (k : V l E own cc nL rt R cells slots Z rv res σ (pc + 2) lv (.ref (eK E i) :: st)) : V l E own cc nL rt R cells slots Z rv res σ pc lv st := by
  subst h1; subst ho
  intro σ' r hr p e s m args below meth c H locs ls F hP hS hl
  exact va_ldcS F.1 F.2.1 F.2.2.2.2.2.1 (F.2.2.2.2.2.2.2.2.2.2.2.1 i hi) d (k σ' r hr p e s m args below meth c H locs ls F hP hS hl)
theorem v_mmax {index : Nat} {x y : Int32} (hl0 : Cond.methodLink own index Lib.Math.max.name ∈ tb) (hst : Cond.static Lib.Math.max.name ∈ tb) (hini : Cond.initialized "java/lang/Math" ∈ tb) (hcode : Cond.code Lib.Math.max.name Lib.Math.max.code 2 (some .int) ∈ tb) (hf : 1 ≤ R.frames) (hlo : (st.map fun v => v.category).sum + 13 ≤ R.locals) (hcs : cells ≤ R.cells ∧ slots ≤ R.slots) (d : decode cc pc = .ok (.invokestatic index, 3)) (k : V l E own cc nL rt R cells slots Z rv res σ (pc + 3) lv (.int (if x < y then y else x) :: st)) : V l E own cc nL rt R cells slots Z rv res σ pc lv (.int y :: .int x :: st) := by
  intro σ' r hr p e s m args below meth c H locs ls F hP hS hl
  exact va_mmax F.1 F.2.1 (F.2.2.1.trans hl.1.symm) F.2.2.2.2.2.1 (F.2.2.2.2.2.2.1 _ hl0) (F.2.2.2.2.2.2.1 _ hst) (F.2.2.2.2.2.2.1 _ hini) (F.2.2.2.2.2.2.1 _ hcode) hf hlo hcs.1 hcs.2 d (k σ' r hr p e s m args below meth c H locs ls F hP hS hl)
theorem v_mmin {index : Nat} {x y : Int32} (hl0 : Cond.methodLink own index Lib.Math.min.name ∈ tb) (hst : Cond.static Lib.Math.min.name ∈ tb) (hini : Cond.initialized "java/lang/Math" ∈ tb) (hcode : Cond.code Lib.Math.min.name Lib.Math.min.code 2 (some .int) ∈ tb) (hf : 1 ≤ R.frames) (hlo : (st.map fun v => v.category).sum + 13 ≤ R.locals) (hcs : cells ≤ R.cells ∧ slots ≤ R.slots) (d : decode cc pc = .ok (.invokestatic index, 3)) (k : V l E own cc nL rt R cells slots Z rv res σ (pc + 3) lv (.int (if y < x then y else x) :: st)) : V l E own cc nL rt R cells slots Z rv res σ pc lv (.int y :: .int x :: st) := by
  intro σ' r hr p e s m args below meth c H locs ls F hP hS hl
  exact va_mmin F.1 F.2.1 (F.2.2.1.trans hl.1.symm) F.2.2.2.2.2.1 (F.2.2.2.2.2.2.1 _ hl0) (F.2.2.2.2.2.2.1 _ hst) (F.2.2.2.2.2.2.1 _ hini) (F.2.2.2.2.2.2.1 _ hcode) hf hlo hcs.1 hcs.2 d (k σ' r hr p e s m args below meth c H locs ls F hP hS hl)

end Rows
end
