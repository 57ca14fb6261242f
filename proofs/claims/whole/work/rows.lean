section
-- ===== PART A: goes FIRST, ahead of the names: the tables' words, and 'selects' of the private methods out of them =====
/-- a private method of a class that the tables say can be made, by its rows of tables_1 -/
def lw_okq (q : MethodName × Nat) : Prop := (q.1.cls ≠ "java/lang/invoke/MethodHandle" ∧ q.1.cls ≠ "java/lang/invoke/VarHandle") ∧ Cond.instantiable q.1.cls q.2 ∈ tables_1 ∧ Cond.privateMethod q.1 ∈ tables_1 ∧ Cond.instanceMethod q.1 ∈ tables_1
theorem lw_p0 : lw_okq (⟨"HillErrands$Reader", "clause", "()V"⟩, 5) := ⟨⟨by decide +kernel, by decide +kernel⟩, List.mem_of_getElem? (i := 214) (by decide +kernel), List.mem_of_getElem? (i := 468) (by decide +kernel), List.mem_of_getElem? (i := 469) (by decide +kernel)⟩
theorem lw_p1 : lw_okq (⟨"HillErrands$Reader", "sign", "()I"⟩, 5) := ⟨⟨by decide +kernel, by decide +kernel⟩, List.mem_of_getElem? (i := 214) (by decide +kernel), List.mem_of_getElem? (i := 472) (by decide +kernel), List.mem_of_getElem? (i := 473) (by decide +kernel)⟩
theorem lw_p2 : lw_okq (⟨"HillErrands$Reader", "fail", "(I)V"⟩, 5) := ⟨⟨by decide +kernel, by decide +kernel⟩, List.mem_of_getElem? (i := 214) (by decide +kernel), List.mem_of_getElem? (i := 476) (by decide +kernel), List.mem_of_getElem? (i := 477) (by decide +kernel)⟩
theorem lw_p3 : lw_okq (⟨"HillErrands$Reader", "sum", "(I)V"⟩, 5) := ⟨⟨by decide +kernel, by decide +kernel⟩, List.mem_of_getElem? (i := 214) (by decide +kernel), List.mem_of_getElem? (i := 489) (by decide +kernel), List.mem_of_getElem? (i := 490) (by decide +kernel)⟩
theorem lw_p4 : lw_okq (⟨"HillErrands$Reader", "term", "(I)V"⟩, 5) := ⟨⟨by decide +kernel, by decide +kernel⟩, List.mem_of_getElem? (i := 214) (by decide +kernel), List.mem_of_getElem? (i := 493) (by decide +kernel), List.mem_of_getElem? (i := 494) (by decide +kernel)⟩
theorem lw_p5 : lw_okq (⟨"HillErrands$Reader", "factor", "(I)V"⟩, 5) := ⟨⟨by decide +kernel, by decide +kernel⟩, List.mem_of_getElem? (i := 214) (by decide +kernel), List.mem_of_getElem? (i := 497) (by decide +kernel), List.mem_of_getElem? (i := 498) (by decide +kernel)⟩
theorem lw_p6 : lw_okq (⟨"HillErrands$Reader", "take", "(I)V"⟩, 5) := ⟨⟨by decide +kernel, by decide +kernel⟩, List.mem_of_getElem? (i := 214) (by decide +kernel), List.mem_of_getElem? (i := 501) (by decide +kernel), List.mem_of_getElem? (i := 502) (by decide +kernel)⟩
theorem lw_p7 : lw_okq (⟨"HillErrands$Reader", "number", "()V"⟩, 5) := ⟨⟨by decide +kernel, by decide +kernel⟩, List.mem_of_getElem? (i := 214) (by decide +kernel), List.mem_of_getElem? (i := 508) (by decide +kernel), List.mem_of_getElem? (i := 509) (by decide +kernel)⟩
theorem lw_p8 : lw_okq (⟨"HillErrands$Reader", "letter", "(I)V"⟩, 5) := ⟨⟨by decide +kernel, by decide +kernel⟩, List.mem_of_getElem? (i := 214) (by decide +kernel), List.mem_of_getElem? (i := 516) (by decide +kernel), List.mem_of_getElem? (i := 517) (by decide +kernel)⟩
theorem lw_p9 : lw_okq (⟨"HillErrands$Reader", "condition", "(I)V"⟩, 5) := ⟨⟨by decide +kernel, by decide +kernel⟩, List.mem_of_getElem? (i := 214) (by decide +kernel), List.mem_of_getElem? (i := 609) (by decide +kernel), List.mem_of_getElem? (i := 610) (by decide +kernel)⟩
theorem lw_p10 : lw_okq (⟨"HillErrands$Reader", "part", "(I)V"⟩, 5) := ⟨⟨by decide +kernel, by decide +kernel⟩, List.mem_of_getElem? (i := 214) (by decide +kernel), List.mem_of_getElem? (i := 613) (by decide +kernel), List.mem_of_getElem? (i := 614) (by decide +kernel)⟩
theorem lw_p11 : lw_okq (⟨"HillErrands$Reader", "piece", "(I)V"⟩, 5) := ⟨⟨by decide +kernel, by decide +kernel⟩, List.mem_of_getElem? (i := 214) (by decide +kernel), List.mem_of_getElem? (i := 617) (by decide +kernel), List.mem_of_getElem? (i := 618) (by decide +kernel)⟩
theorem lw_p12 : lw_okq (⟨"HillErrands$Reader", "comparison", "(I)V"⟩, 5) := ⟨⟨by decide +kernel, by decide +kernel⟩, List.mem_of_getElem? (i := 214) (by decide +kernel), List.mem_of_getElem? (i := 621) (by decide +kernel), List.mem_of_getElem? (i := 622) (by decide +kernel)⟩
theorem lw_p13 : lw_okq (⟨"HillErrands$Town", "putPlaces", "(II)V"⟩, 13) := ⟨⟨by decide +kernel, by decide +kernel⟩, List.mem_of_getElem? (i := 31) (by decide +kernel), List.mem_of_getElem? (i := 664) (by decide +kernel), List.mem_of_getElem? (i := 665) (by decide +kernel)⟩
theorem lw_p14 : lw_okq (⟨"HillErrands$Town", "putStair", "(III)V"⟩, 13) := ⟨⟨by decide +kernel, by decide +kernel⟩, List.mem_of_getElem? (i := 31) (by decide +kernel), List.mem_of_getElem? (i := 669) (by decide +kernel), List.mem_of_getElem? (i := 670) (by decide +kernel)⟩
theorem lw_p15 : lw_okq (⟨"HillErrands$Law", "reckon", "(II[I)I"⟩, 11) := ⟨⟨by decide +kernel, by decide +kernel⟩, List.mem_of_getElem? (i := 37) (by decide +kernel), List.mem_of_getElem? (i := 677) (by decide +kernel), List.mem_of_getElem? (i := 678) (by decide +kernel)⟩
def lw_privs_1 : List (MethodName × Nat) := [(⟨"HillErrands$Reader", "clause", "()V"⟩, 5), (⟨"HillErrands$Reader", "sign", "()I"⟩, 5), (⟨"HillErrands$Reader", "fail", "(I)V"⟩, 5), (⟨"HillErrands$Reader", "sum", "(I)V"⟩, 5), (⟨"HillErrands$Reader", "term", "(I)V"⟩, 5), (⟨"HillErrands$Reader", "factor", "(I)V"⟩, 5), (⟨"HillErrands$Reader", "take", "(I)V"⟩, 5), (⟨"HillErrands$Reader", "number", "()V"⟩, 5), (⟨"HillErrands$Reader", "letter", "(I)V"⟩, 5), (⟨"HillErrands$Reader", "condition", "(I)V"⟩, 5), (⟨"HillErrands$Reader", "part", "(I)V"⟩, 5), (⟨"HillErrands$Reader", "piece", "(I)V"⟩, 5), (⟨"HillErrands$Reader", "comparison", "(I)V"⟩, 5), (⟨"HillErrands$Town", "putPlaces", "(II)V"⟩, 13), (⟨"HillErrands$Town", "putStair", "(III)V"⟩, 13), (⟨"HillErrands$Law", "reckon", "(II[I)I"⟩, 11)]
theorem lw_r1 : ∀ q ∈ lw_privs_1, lw_okq q := List.forall_mem_cons.mpr ⟨lw_p0, List.forall_mem_cons.mpr ⟨lw_p1, List.forall_mem_cons.mpr ⟨lw_p2, List.forall_mem_cons.mpr ⟨lw_p3, List.forall_mem_cons.mpr ⟨lw_p4, List.forall_mem_cons.mpr ⟨lw_p5, List.forall_mem_cons.mpr ⟨lw_p6, List.forall_mem_cons.mpr ⟨lw_p7, List.forall_mem_cons.mpr ⟨lw_p8, List.forall_mem_cons.mpr ⟨lw_p9, List.forall_mem_cons.mpr ⟨lw_p10, List.forall_mem_cons.mpr ⟨lw_p11, List.forall_mem_cons.mpr ⟨lw_p12, List.forall_mem_cons.mpr ⟨lw_p13, List.forall_mem_cons.mpr ⟨lw_p14, List.forall_mem_cons.mpr ⟨lw_p15, fun _ h => absurd h List.not_mem_nil⟩⟩⟩⟩⟩⟩⟩⟩⟩⟩⟩⟩⟩⟩⟩⟩
theorem lw_p16 : lw_okq (⟨"HillErrands$Law", "joined", "(III)I"⟩, 11) := ⟨⟨by decide +kernel, by decide +kernel⟩, List.mem_of_getElem? (i := 37) (by decide +kernel), List.mem_of_getElem? (i := 681) (by decide +kernel), List.mem_of_getElem? (i := 682) (by decide +kernel)⟩
theorem lw_p17 : lw_okq (⟨"HillErrands$Ways", "slotOf", "(I)I"⟩, 5) := ⟨⟨by decide +kernel, by decide +kernel⟩, List.mem_of_getElem? (i := 129) (by decide +kernel), List.mem_of_getElem? (i := 695) (by decide +kernel), List.mem_of_getElem? (i := 696) (by decide +kernel)⟩
theorem lw_p18 : lw_okq (⟨"HillErrands$Ways", "lay", "([II)V"⟩, 5) := ⟨⟨by decide +kernel, by decide +kernel⟩, List.mem_of_getElem? (i := 129) (by decide +kernel), List.mem_of_getElem? (i := 703) (by decide +kernel), List.mem_of_getElem? (i := 704) (by decide +kernel)⟩
theorem lw_p19 : lw_okq (⟨"HillErrands$Ways", "shorten", "([I)V"⟩, 5) := ⟨⟨by decide +kernel, by decide +kernel⟩, List.mem_of_getElem? (i := 129) (by decide +kernel), List.mem_of_getElem? (i := 721) (by decide +kernel), List.mem_of_getElem? (i := 722) (by decide +kernel)⟩
theorem lw_p20 : lw_okq (⟨"HillErrands$Ways", "keyOf", "(III)I"⟩, 5) := ⟨⟨by decide +kernel, by decide +kernel⟩, List.mem_of_getElem? (i := 129) (by decide +kernel), List.mem_of_getElem? (i := 729) (by decide +kernel), List.mem_of_getElem? (i := 730) (by decide +kernel)⟩
theorem lw_p21 : lw_okq (⟨"HillErrands$Ways", "following", "(III)I"⟩, 5) := ⟨⟨by decide +kernel, by decide +kernel⟩, List.mem_of_getElem? (i := 129) (by decide +kernel), List.mem_of_getElem? (i := 738) (by decide +kernel), List.mem_of_getElem? (i := 739) (by decide +kernel)⟩
theorem lw_p22 : lw_okq (⟨"HillErrands$Rounds", "loadOf", "(I)I"⟩, 7) := ⟨⟨by decide +kernel, by decide +kernel⟩, List.mem_of_getElem? (i := 238) (by decide +kernel), List.mem_of_getElem? (i := 789) (by decide +kernel), List.mem_of_getElem? (i := 790) (by decide +kernel)⟩
theorem lw_p23 : lw_okq (⟨"HillErrands$Rounds", "firstBest", "(IIII)I"⟩, 7) := ⟨⟨by decide +kernel, by decide +kernel⟩, List.mem_of_getElem? (i := 238) (by decide +kernel), List.mem_of_getElem? (i := 801) (by decide +kernel), List.mem_of_getElem? (i := 802) (by decide +kernel)⟩
theorem lw_p24 : lw_okq (⟨"HillErrands$Rounds", "through", "(IIII)I"⟩, 7) := ⟨⟨by decide +kernel, by decide +kernel⟩, List.mem_of_getElem? (i := 238) (by decide +kernel), List.mem_of_getElem? (i := 806) (by decide +kernel), List.mem_of_getElem? (i := 807) (by decide +kernel)⟩
theorem lw_p25 : lw_okq (⟨"HillErrands$Rounds", "spreadFrom", "(I)V"⟩, 7) := ⟨⟨by decide +kernel, by decide +kernel⟩, List.mem_of_getElem? (i := 238) (by decide +kernel), List.mem_of_getElem? (i := 826) (by decide +kernel), List.mem_of_getElem? (i := 827) (by decide +kernel)⟩
theorem lw_p26 : lw_okq (⟨"HillErrands$Folk", "bestSender", "(II)I"⟩, 12) := ⟨⟨by decide +kernel, by decide +kernel⟩, List.mem_of_getElem? (i := 153) (by decide +kernel), List.mem_of_getElem? (i := 887) (by decide +kernel), List.mem_of_getElem? (i := 888) (by decide +kernel)⟩
theorem lw_p27 : lw_okq (⟨"HillErrands$Folk", "weigh", "(III)I"⟩, 12) := ⟨⟨by decide +kernel, by decide +kernel⟩, List.mem_of_getElem? (i := 153) (by decide +kernel), List.mem_of_getElem? (i := 891) (by decide +kernel), List.mem_of_getElem? (i := 892) (by decide +kernel)⟩
theorem lw_p28 : lw_okq (⟨"HillErrands$Wells", "findBringers", "(I)V"⟩, 6) := ⟨⟨by decide +kernel, by decide +kernel⟩, List.mem_of_getElem? (i := 267) (by decide +kernel), List.mem_of_getElem? (i := 929) (by decide +kernel), List.mem_of_getElem? (i := 930) (by decide +kernel)⟩
theorem lw_p29 : lw_okq (⟨"HillErrands$Wells", "servedAloneBy", "(I)I"⟩, 6) := ⟨⟨by decide +kernel, by decide +kernel⟩, List.mem_of_getElem? (i := 267) (by decide +kernel), List.mem_of_getElem? (i := 943) (by decide +kernel), List.mem_of_getElem? (i := 944) (by decide +kernel)⟩
theorem lw_p30 : lw_okq (⟨"HillErrands$Wells", "wantedBy", "(I)I"⟩, 6) := ⟨⟨by decide +kernel, by decide +kernel⟩, List.mem_of_getElem? (i := 267) (by decide +kernel), List.mem_of_getElem? (i := 951) (by decide +kernel), List.mem_of_getElem? (i := 952) (by decide +kernel)⟩
theorem lw_p31 : lw_okq (⟨"HillErrands$Wells", "carriedBy", "(I)I"⟩, 6) := ⟨⟨by decide +kernel, by decide +kernel⟩, List.mem_of_getElem? (i := 267) (by decide +kernel), List.mem_of_getElem? (i := 955) (by decide +kernel), List.mem_of_getElem? (i := 956) (by decide +kernel)⟩
def lw_privs_2 : List (MethodName × Nat) := [(⟨"HillErrands$Law", "joined", "(III)I"⟩, 11), (⟨"HillErrands$Ways", "slotOf", "(I)I"⟩, 5), (⟨"HillErrands$Ways", "lay", "([II)V"⟩, 5), (⟨"HillErrands$Ways", "shorten", "([I)V"⟩, 5), (⟨"HillErrands$Ways", "keyOf", "(III)I"⟩, 5), (⟨"HillErrands$Ways", "following", "(III)I"⟩, 5), (⟨"HillErrands$Rounds", "loadOf", "(I)I"⟩, 7), (⟨"HillErrands$Rounds", "firstBest", "(IIII)I"⟩, 7), (⟨"HillErrands$Rounds", "through", "(IIII)I"⟩, 7), (⟨"HillErrands$Rounds", "spreadFrom", "(I)V"⟩, 7), (⟨"HillErrands$Folk", "bestSender", "(II)I"⟩, 12), (⟨"HillErrands$Folk", "weigh", "(III)I"⟩, 12), (⟨"HillErrands$Wells", "findBringers", "(I)V"⟩, 6), (⟨"HillErrands$Wells", "servedAloneBy", "(I)I"⟩, 6), (⟨"HillErrands$Wells", "wantedBy", "(I)I"⟩, 6), (⟨"HillErrands$Wells", "carriedBy", "(I)I"⟩, 6)]
theorem lw_r2 : ∀ q ∈ lw_privs_2, lw_okq q := List.forall_mem_cons.mpr ⟨lw_p16, List.forall_mem_cons.mpr ⟨lw_p17, List.forall_mem_cons.mpr ⟨lw_p18, List.forall_mem_cons.mpr ⟨lw_p19, List.forall_mem_cons.mpr ⟨lw_p20, List.forall_mem_cons.mpr ⟨lw_p21, List.forall_mem_cons.mpr ⟨lw_p22, List.forall_mem_cons.mpr ⟨lw_p23, List.forall_mem_cons.mpr ⟨lw_p24, List.forall_mem_cons.mpr ⟨lw_p25, List.forall_mem_cons.mpr ⟨lw_p26, List.forall_mem_cons.mpr ⟨lw_p27, List.forall_mem_cons.mpr ⟨lw_p28, List.forall_mem_cons.mpr ⟨lw_p29, List.forall_mem_cons.mpr ⟨lw_p30, List.forall_mem_cons.mpr ⟨lw_p31, fun _ h => absurd h List.not_mem_nil⟩⟩⟩⟩⟩⟩⟩⟩⟩⟩⟩⟩⟩⟩⟩⟩
theorem lw_p32 : lw_okq (⟨"HillErrands$Market", "costs", "(III)I"⟩, 5) := ⟨⟨by decide +kernel, by decide +kernel⟩, List.mem_of_getElem? (i := 292) (by decide +kernel), List.mem_of_getElem? (i := 990) (by decide +kernel), List.mem_of_getElem? (i := 991) (by decide +kernel)⟩
theorem lw_p33 : lw_okq (⟨"HillErrands$Market", "likedSpot", "(II)I"⟩, 5) := ⟨⟨by decide +kernel, by decide +kernel⟩, List.mem_of_getElem? (i := 292) (by decide +kernel), List.mem_of_getElem? (i := 1021) (by decide +kernel), List.mem_of_getElem? (i := 1022) (by decide +kernel)⟩
theorem lw_p34 : lw_okq (⟨"HillErrands$Market", "nearestTo", "(II)I"⟩, 5) := ⟨⟨by decide +kernel, by decide +kernel⟩, List.mem_of_getElem? (i := 292) (by decide +kernel), List.mem_of_getElem? (i := 1029) (by decide +kernel), List.mem_of_getElem? (i := 1030) (by decide +kernel)⟩
theorem lw_p35 : lw_okq (⟨"HillErrands$Mason", "costsWith", "(III)I"⟩, 6) := ⟨⟨by decide +kernel, by decide +kernel⟩, List.mem_of_getElem? (i := 314) (by decide +kernel), List.mem_of_getElem? (i := 1045) (by decide +kernel), List.mem_of_getElem? (i := 1046) (by decide +kernel)⟩
theorem lw_p36 : lw_okq (⟨"HillErrands", "meetingPlace", "(IIZ)I"⟩, 11) := ⟨⟨by decide +kernel, by decide +kernel⟩, List.mem_of_getElem? (i := 23) (by decide +kernel), List.mem_of_getElem? (i := 1065) (by decide +kernel), List.mem_of_getElem? (i := 1066) (by decide +kernel)⟩
theorem lw_p37 : lw_okq (⟨"HillErrands", "meetingCost", "(IIIZ)I"⟩, 11) := ⟨⟨by decide +kernel, by decide +kernel⟩, List.mem_of_getElem? (i := 23) (by decide +kernel), List.mem_of_getElem? (i := 1069) (by decide +kernel), List.mem_of_getElem? (i := 1070) (by decide +kernel)⟩
theorem lw_p38 : lw_okq (⟨"HillErrands$Fares", "join", "(III)V"⟩, 5) := ⟨⟨by decide +kernel, by decide +kernel⟩, List.mem_of_getElem? (i := 339) (by decide +kernel), List.mem_of_getElem? (i := 1083) (by decide +kernel), List.mem_of_getElem? (i := 1084) (by decide +kernel)⟩
theorem lw_p39 : lw_okq (⟨"HillErrands", "drawSet", "(I)I"⟩, 11) := ⟨⟨by decide +kernel, by decide +kernel⟩, List.mem_of_getElem? (i := 23) (by decide +kernel), List.mem_of_getElem? (i := 1112) (by decide +kernel), List.mem_of_getElem? (i := 1113) (by decide +kernel)⟩
theorem lw_p40 : lw_okq (⟨"HillErrands", "firstWrong", "(II)I"⟩, 11) := ⟨⟨by decide +kernel, by decide +kernel⟩, List.mem_of_getElem? (i := 23) (by decide +kernel), List.mem_of_getElem? (i := 1136) (by decide +kernel), List.mem_of_getElem? (i := 1137) (by decide +kernel)⟩
theorem lw_p41 : lw_okq (⟨"HillErrandsModel", "isPlace", "(I)Z"⟩, 69) := ⟨⟨by decide +kernel, by decide +kernel⟩, List.mem_of_getElem? (i := 1162) (by decide +kernel), List.mem_of_getElem? (i := 1389) (by decide +kernel), List.mem_of_getElem? (i := 1390) (by decide +kernel)⟩
theorem lw_p42 : lw_okq (⟨"HillErrandsModel", "builds", "(III)V"⟩, 69) := ⟨⟨by decide +kernel, by decide +kernel⟩, List.mem_of_getElem? (i := 1162) (by decide +kernel), List.mem_of_getElem? (i := 1393) (by decide +kernel), List.mem_of_getElem? (i := 1394) (by decide +kernel)⟩
theorem lw_p43 : lw_okq (⟨"HillErrandsModel", "types", "(I)V"⟩, 69) := ⟨⟨by decide +kernel, by decide +kernel⟩, List.mem_of_getElem? (i := 1162) (by decide +kernel), List.mem_of_getElem? (i := 1405) (by decide +kernel), List.mem_of_getElem? (i := 1406) (by decide +kernel)⟩
theorem lw_p44 : lw_okq (⟨"HillErrandsModel", "readsClause", "()Z"⟩, 69) := ⟨⟨by decide +kernel, by decide +kernel⟩, List.mem_of_getElem? (i := 1162) (by decide +kernel), List.mem_of_getElem? (i := 1413) (by decide +kernel), List.mem_of_getElem? (i := 1414) (by decide +kernel)⟩
theorem lw_p45 : lw_okq (⟨"HillErrandsModel", "here", "()I"⟩, 69) := ⟨⟨by decide +kernel, by decide +kernel⟩, List.mem_of_getElem? (i := 1162) (by decide +kernel), List.mem_of_getElem? (i := 1417) (by decide +kernel), List.mem_of_getElem? (i := 1418) (by decide +kernel)⟩
theorem lw_p46 : lw_okq (⟨"HillErrandsModel", "wrongAt", "(II)Z"⟩, 69) := ⟨⟨by decide +kernel, by decide +kernel⟩, List.mem_of_getElem? (i := 1162) (by decide +kernel), List.mem_of_getElem? (i := 1421) (by decide +kernel), List.mem_of_getElem? (i := 1422) (by decide +kernel)⟩
theorem lw_p47 : lw_okq (⟨"HillErrandsModel", "readsSum", "()Z"⟩, 69) := ⟨⟨by decide +kernel, by decide +kernel⟩, List.mem_of_getElem? (i := 1162) (by decide +kernel), List.mem_of_getElem? (i := 1425) (by decide +kernel), List.mem_of_getElem? (i := 1426) (by decide +kernel)⟩
def lw_privs_3 : List (MethodName × Nat) := [(⟨"HillErrands$Market", "costs", "(III)I"⟩, 5), (⟨"HillErrands$Market", "likedSpot", "(II)I"⟩, 5), (⟨"HillErrands$Market", "nearestTo", "(II)I"⟩, 5), (⟨"HillErrands$Mason", "costsWith", "(III)I"⟩, 6), (⟨"HillErrands", "meetingPlace", "(IIZ)I"⟩, 11), (⟨"HillErrands", "meetingCost", "(IIIZ)I"⟩, 11), (⟨"HillErrands$Fares", "join", "(III)V"⟩, 5), (⟨"HillErrands", "drawSet", "(I)I"⟩, 11), (⟨"HillErrands", "firstWrong", "(II)I"⟩, 11), (⟨"HillErrandsModel", "isPlace", "(I)Z"⟩, 69), (⟨"HillErrandsModel", "builds", "(III)V"⟩, 69), (⟨"HillErrandsModel", "types", "(I)V"⟩, 69), (⟨"HillErrandsModel", "readsClause", "()Z"⟩, 69), (⟨"HillErrandsModel", "here", "()I"⟩, 69), (⟨"HillErrandsModel", "wrongAt", "(II)Z"⟩, 69), (⟨"HillErrandsModel", "readsSum", "()Z"⟩, 69)]
theorem lw_r3 : ∀ q ∈ lw_privs_3, lw_okq q := List.forall_mem_cons.mpr ⟨lw_p32, List.forall_mem_cons.mpr ⟨lw_p33, List.forall_mem_cons.mpr ⟨lw_p34, List.forall_mem_cons.mpr ⟨lw_p35, List.forall_mem_cons.mpr ⟨lw_p36, List.forall_mem_cons.mpr ⟨lw_p37, List.forall_mem_cons.mpr ⟨lw_p38, List.forall_mem_cons.mpr ⟨lw_p39, List.forall_mem_cons.mpr ⟨lw_p40, List.forall_mem_cons.mpr ⟨lw_p41, List.forall_mem_cons.mpr ⟨lw_p42, List.forall_mem_cons.mpr ⟨lw_p43, List.forall_mem_cons.mpr ⟨lw_p44, List.forall_mem_cons.mpr ⟨lw_p45, List.forall_mem_cons.mpr ⟨lw_p46, List.forall_mem_cons.mpr ⟨lw_p47, fun _ h => absurd h List.not_mem_nil⟩⟩⟩⟩⟩⟩⟩⟩⟩⟩⟩⟩⟩⟩⟩⟩
theorem lw_p48 : lw_okq (⟨"HillErrandsModel", "readsFactor", "()Z"⟩, 69) := ⟨⟨by decide +kernel, by decide +kernel⟩, List.mem_of_getElem? (i := 1162) (by decide +kernel), List.mem_of_getElem? (i := 1429) (by decide +kernel), List.mem_of_getElem? (i := 1430) (by decide +kernel)⟩
theorem lw_p49 : lw_okq (⟨"HillErrandsModel", "opens", "(I)Z"⟩, 69) := ⟨⟨by decide +kernel, by decide +kernel⟩, List.mem_of_getElem? (i := 1162) (by decide +kernel), List.mem_of_getElem? (i := 1433) (by decide +kernel), List.mem_of_getElem? (i := 1434) (by decide +kernel)⟩
theorem lw_p50 : lw_okq (⟨"HillErrandsModel", "isDigit", "()Z"⟩, 69) := ⟨⟨by decide +kernel, by decide +kernel⟩, List.mem_of_getElem? (i := 1162) (by decide +kernel), List.mem_of_getElem? (i := 1438) (by decide +kernel), List.mem_of_getElem? (i := 1439) (by decide +kernel)⟩
theorem lw_p51 : lw_okq (⟨"HillErrandsModel", "readsNumber", "()Z"⟩, 69) := ⟨⟨by decide +kernel, by decide +kernel⟩, List.mem_of_getElem? (i := 1162) (by decide +kernel), List.mem_of_getElem? (i := 1442) (by decide +kernel), List.mem_of_getElem? (i := 1443) (by decide +kernel)⟩
theorem lw_p52 : lw_okq (⟨"HillErrandsModel", "notes", "(II)V"⟩, 69) := ⟨⟨by decide +kernel, by decide +kernel⟩, List.mem_of_getElem? (i := 1162) (by decide +kernel), List.mem_of_getElem? (i := 1446) (by decide +kernel), List.mem_of_getElem? (i := 1447) (by decide +kernel)⟩
theorem lw_p53 : lw_okq (⟨"HillErrandsModel", "closesSums", "(Z)V"⟩, 69) := ⟨⟨by decide +kernel, by decide +kernel⟩, List.mem_of_getElem? (i := 1162) (by decide +kernel), List.mem_of_getElem? (i := 1456) (by decide +kernel), List.mem_of_getElem? (i := 1457) (by decide +kernel)⟩
theorem lw_p54 : lw_okq (⟨"HillErrandsModel", "top", "()I"⟩, 69) := ⟨⟨by decide +kernel, by decide +kernel⟩, List.mem_of_getElem? (i := 1162) (by decide +kernel), List.mem_of_getElem? (i := 1460) (by decide +kernel), List.mem_of_getElem? (i := 1461) (by decide +kernel)⟩
theorem lw_p55 : lw_okq (⟨"HillErrandsModel", "hasOpenSum", "(I)Z"⟩, 69) := ⟨⟨by decide +kernel, by decide +kernel⟩, List.mem_of_getElem? (i := 1162) (by decide +kernel), List.mem_of_getElem? (i := 1464) (by decide +kernel), List.mem_of_getElem? (i := 1465) (by decide +kernel)⟩
theorem lw_p56 : lw_okq (⟨"HillErrandsModel", "readsCondition", "()Z"⟩, 69) := ⟨⟨by decide +kernel, by decide +kernel⟩, List.mem_of_getElem? (i := 1162) (by decide +kernel), List.mem_of_getElem? (i := 1468) (by decide +kernel), List.mem_of_getElem? (i := 1469) (by decide +kernel)⟩
theorem lw_p57 : lw_okq (⟨"HillErrandsModel", "readsCompared", "()Z"⟩, 69) := ⟨⟨by decide +kernel, by decide +kernel⟩, List.mem_of_getElem? (i := 1162) (by decide +kernel), List.mem_of_getElem? (i := 1472) (by decide +kernel), List.mem_of_getElem? (i := 1473) (by decide +kernel)⟩
theorem lw_p58 : lw_okq (⟨"HillErrandsModel", "endsPiece", "()V"⟩, 69) := ⟨⟨by decide +kernel, by decide +kernel⟩, List.mem_of_getElem? (i := 1162) (by decide +kernel), List.mem_of_getElem? (i := 1476) (by decide +kernel), List.mem_of_getElem? (i := 1477) (by decide +kernel)⟩
theorem lw_p59 : lw_okq (⟨"HillErrandsModel", "lands", "(Z)V"⟩, 69) := ⟨⟨by decide +kernel, by decide +kernel⟩, List.mem_of_getElem? (i := 1162) (by decide +kernel), List.mem_of_getElem? (i := 1480) (by decide +kernel), List.mem_of_getElem? (i := 1481) (by decide +kernel)⟩
theorem lw_p60 : lw_okq (⟨"HillErrandsModel", "jumps", "(I)V"⟩, 69) := ⟨⟨by decide +kernel, by decide +kernel⟩, List.mem_of_getElem? (i := 1162) (by decide +kernel), List.mem_of_getElem? (i := 1484) (by decide +kernel), List.mem_of_getElem? (i := 1485) (by decide +kernel)⟩
theorem lw_p61 : lw_okq (⟨"HillErrandsModel", "takes", "(I)Z"⟩, 69) := ⟨⟨by decide +kernel, by decide +kernel⟩, List.mem_of_getElem? (i := 1162) (by decide +kernel), List.mem_of_getElem? (i := 1488) (by decide +kernel), List.mem_of_getElem? (i := 1489) (by decide +kernel)⟩
theorem lw_p62 : lw_okq (⟨"HillErrandsModel", "goes", "(IZI)I"⟩, 69) := ⟨⟨by decide +kernel, by decide +kernel⟩, List.mem_of_getElem? (i := 1162) (by decide +kernel), List.mem_of_getElem? (i := 1499) (by decide +kernel), List.mem_of_getElem? (i := 1500) (by decide +kernel)⟩
theorem lw_p63 : lw_okq (⟨"HillErrandsModel", "comesTo", "(II)I"⟩, 69) := ⟨⟨by decide +kernel, by decide +kernel⟩, List.mem_of_getElem? (i := 1162) (by decide +kernel), List.mem_of_getElem? (i := 1504) (by decide +kernel), List.mem_of_getElem? (i := 1505) (by decide +kernel)⟩
def lw_privs_4 : List (MethodName × Nat) := [(⟨"HillErrandsModel", "readsFactor", "()Z"⟩, 69), (⟨"HillErrandsModel", "opens", "(I)Z"⟩, 69), (⟨"HillErrandsModel", "isDigit", "()Z"⟩, 69), (⟨"HillErrandsModel", "readsNumber", "()Z"⟩, 69), (⟨"HillErrandsModel", "notes", "(II)V"⟩, 69), (⟨"HillErrandsModel", "closesSums", "(Z)V"⟩, 69), (⟨"HillErrandsModel", "top", "()I"⟩, 69), (⟨"HillErrandsModel", "hasOpenSum", "(I)Z"⟩, 69), (⟨"HillErrandsModel", "readsCondition", "()Z"⟩, 69), (⟨"HillErrandsModel", "readsCompared", "()Z"⟩, 69), (⟨"HillErrandsModel", "endsPiece", "()V"⟩, 69), (⟨"HillErrandsModel", "lands", "(Z)V"⟩, 69), (⟨"HillErrandsModel", "jumps", "(I)V"⟩, 69), (⟨"HillErrandsModel", "takes", "(I)Z"⟩, 69), (⟨"HillErrandsModel", "goes", "(IZI)I"⟩, 69), (⟨"HillErrandsModel", "comesTo", "(II)I"⟩, 69)]
theorem lw_r4 : ∀ q ∈ lw_privs_4, lw_okq q := List.forall_mem_cons.mpr ⟨lw_p48, List.forall_mem_cons.mpr ⟨lw_p49, List.forall_mem_cons.mpr ⟨lw_p50, List.forall_mem_cons.mpr ⟨lw_p51, List.forall_mem_cons.mpr ⟨lw_p52, List.forall_mem_cons.mpr ⟨lw_p53, List.forall_mem_cons.mpr ⟨lw_p54, List.forall_mem_cons.mpr ⟨lw_p55, List.forall_mem_cons.mpr ⟨lw_p56, List.forall_mem_cons.mpr ⟨lw_p57, List.forall_mem_cons.mpr ⟨lw_p58, List.forall_mem_cons.mpr ⟨lw_p59, List.forall_mem_cons.mpr ⟨lw_p60, List.forall_mem_cons.mpr ⟨lw_p61, List.forall_mem_cons.mpr ⟨lw_p62, List.forall_mem_cons.mpr ⟨lw_p63, fun _ h => absurd h List.not_mem_nil⟩⟩⟩⟩⟩⟩⟩⟩⟩⟩⟩⟩⟩⟩⟩⟩
theorem lw_p64 : lw_okq (⟨"HillErrandsModel", "begins", "()V"⟩, 69) := ⟨⟨by decide +kernel, by decide +kernel⟩, List.mem_of_getElem? (i := 1162) (by decide +kernel), List.mem_of_getElem? (i := 1515) (by decide +kernel), List.mem_of_getElem? (i := 1516) (by decide +kernel)⟩
theorem lw_p65 : lw_okq (⟨"HillErrandsModel", "wayAt", "(III)I"⟩, 69) := ⟨⟨by decide +kernel, by decide +kernel⟩, List.mem_of_getElem? (i := 1162) (by decide +kernel), List.mem_of_getElem? (i := 1519) (by decide +kernel), List.mem_of_getElem? (i := 1520) (by decide +kernel)⟩
theorem lw_p66 : lw_okq (⟨"HillErrandsModel", "lays", "(I)V"⟩, 69) := ⟨⟨by decide +kernel, by decide +kernel⟩, List.mem_of_getElem? (i := 1162) (by decide +kernel), List.mem_of_getElem? (i := 1523) (by decide +kernel), List.mem_of_getElem? (i := 1524) (by decide +kernel)⟩
theorem lw_p67 : lw_okq (⟨"HillErrandsModel", "step", "(IIII)V"⟩, 69) := ⟨⟨by decide +kernel, by decide +kernel⟩, List.mem_of_getElem? (i := 1162) (by decide +kernel), List.mem_of_getElem? (i := 1527) (by decide +kernel), List.mem_of_getElem? (i := 1528) (by decide +kernel)⟩
theorem lw_p68 : lw_okq (⟨"HillErrandsModel", "laysRow", "(III)V"⟩, 69) := ⟨⟨by decide +kernel, by decide +kernel⟩, List.mem_of_getElem? (i := 1162) (by decide +kernel), List.mem_of_getElem? (i := 1537) (by decide +kernel), List.mem_of_getElem? (i := 1538) (by decide +kernel)⟩
theorem lw_p69 : lw_okq (⟨"HillErrandsModel", "nextOn", "(III)I"⟩, 69) := ⟨⟨by decide +kernel, by decide +kernel⟩, List.mem_of_getElem? (i := 1162) (by decide +kernel), List.mem_of_getElem? (i := 1541) (by decide +kernel), List.mem_of_getElem? (i := 1542) (by decide +kernel)⟩
theorem lw_p70 : lw_okq (⟨"HillErrandsModel", "costOf", "(III)I"⟩, 69) := ⟨⟨by decide +kernel, by decide +kernel⟩, List.mem_of_getElem? (i := 1162) (by decide +kernel), List.mem_of_getElem? (i := 1553) (by decide +kernel), List.mem_of_getElem? (i := 1554) (by decide +kernel)⟩
theorem lw_p71 : lw_okq (⟨"HillErrandsModel", "areErrands", "(I)Z"⟩, 69) := ⟨⟨by decide +kernel, by decide +kernel⟩, List.mem_of_getElem? (i := 1162) (by decide +kernel), List.mem_of_getElem? (i := 1561) (by decide +kernel), List.mem_of_getElem? (i := 1562) (by decide +kernel)⟩
theorem lw_p72 : lw_okq (⟨"HillErrandsModel", "separate", "(II)I"⟩, 69) := ⟨⟨by decide +kernel, by decide +kernel⟩, List.mem_of_getElem? (i := 1162) (by decide +kernel), List.mem_of_getElem? (i := 1568) (by decide +kernel), List.mem_of_getElem? (i := 1569) (by decide +kernel)⟩
theorem lw_p73 : lw_okq (⟨"HillErrandsModel", "roundOf", "(II)I"⟩, 69) := ⟨⟨by decide +kernel, by decide +kernel⟩, List.mem_of_getElem? (i := 1162) (by decide +kernel), List.mem_of_getElem? (i := 1572) (by decide +kernel), List.mem_of_getElem? (i := 1573) (by decide +kernel)⟩
theorem lw_p74 : lw_okq (⟨"HillErrandsModel", "laysRest", "(II)V"⟩, 69) := ⟨⟨by decide +kernel, by decide +kernel⟩, List.mem_of_getElem? (i := 1162) (by decide +kernel), List.mem_of_getElem? (i := 1576) (by decide +kernel), List.mem_of_getElem? (i := 1577) (by decide +kernel)⟩
theorem lw_p75 : lw_okq (⟨"HillErrandsModel", "placeOf", "(II)I"⟩, 69) := ⟨⟨by decide +kernel, by decide +kernel⟩, List.mem_of_getElem? (i := 1162) (by decide +kernel), List.mem_of_getElem? (i := 1580) (by decide +kernel), List.mem_of_getElem? (i := 1581) (by decide +kernel)⟩
theorem lw_p76 : lw_okq (⟨"HillErrandsModel", "loadOf", "(I)I"⟩, 69) := ⟨⟨by decide +kernel, by decide +kernel⟩, List.mem_of_getElem? (i := 1162) (by decide +kernel), List.mem_of_getElem? (i := 1584) (by decide +kernel), List.mem_of_getElem? (i := 1585) (by decide +kernel)⟩
theorem lw_p77 : lw_okq (⟨"HillErrandsModel", "restBy", "(IIIII)I"⟩, 69) := ⟨⟨by decide +kernel, by decide +kernel⟩, List.mem_of_getElem? (i := 1162) (by decide +kernel), List.mem_of_getElem? (i := 1588) (by decide +kernel), List.mem_of_getElem? (i := 1589) (by decide +kernel)⟩
theorem lw_p78 : lw_okq (⟨"HillErrandsModel", "worthAll", "(I)I"⟩, 69) := ⟨⟨by decide +kernel, by decide +kernel⟩, List.mem_of_getElem? (i := 1162) (by decide +kernel), List.mem_of_getElem? (i := 1597) (by decide +kernel), List.mem_of_getElem? (i := 1598) (by decide +kernel)⟩
theorem lw_p79 : lw_okq (⟨"HillErrandsModel", "isPerson", "(I)Z"⟩, 69) := ⟨⟨by decide +kernel, by decide +kernel⟩, List.mem_of_getElem? (i := 1162) (by decide +kernel), List.mem_of_getElem? (i := 1613) (by decide +kernel), List.mem_of_getElem? (i := 1614) (by decide +kernel)⟩
def lw_privs_5 : List (MethodName × Nat) := [(⟨"HillErrandsModel", "begins", "()V"⟩, 69), (⟨"HillErrandsModel", "wayAt", "(III)I"⟩, 69), (⟨"HillErrandsModel", "lays", "(I)V"⟩, 69), (⟨"HillErrandsModel", "step", "(IIII)V"⟩, 69), (⟨"HillErrandsModel", "laysRow", "(III)V"⟩, 69), (⟨"HillErrandsModel", "nextOn", "(III)I"⟩, 69), (⟨"HillErrandsModel", "costOf", "(III)I"⟩, 69), (⟨"HillErrandsModel", "areErrands", "(I)Z"⟩, 69), (⟨"HillErrandsModel", "separate", "(II)I"⟩, 69), (⟨"HillErrandsModel", "roundOf", "(II)I"⟩, 69), (⟨"HillErrandsModel", "laysRest", "(II)V"⟩, 69), (⟨"HillErrandsModel", "placeOf", "(II)I"⟩, 69), (⟨"HillErrandsModel", "loadOf", "(I)I"⟩, 69), (⟨"HillErrandsModel", "restBy", "(IIIII)I"⟩, 69), (⟨"HillErrandsModel", "worthAll", "(I)I"⟩, 69), (⟨"HillErrandsModel", "isPerson", "(I)Z"⟩, 69)]
theorem lw_r5 : ∀ q ∈ lw_privs_5, lw_okq q := List.forall_mem_cons.mpr ⟨lw_p64, List.forall_mem_cons.mpr ⟨lw_p65, List.forall_mem_cons.mpr ⟨lw_p66, List.forall_mem_cons.mpr ⟨lw_p67, List.forall_mem_cons.mpr ⟨lw_p68, List.forall_mem_cons.mpr ⟨lw_p69, List.forall_mem_cons.mpr ⟨lw_p70, List.forall_mem_cons.mpr ⟨lw_p71, List.forall_mem_cons.mpr ⟨lw_p72, List.forall_mem_cons.mpr ⟨lw_p73, List.forall_mem_cons.mpr ⟨lw_p74, List.forall_mem_cons.mpr ⟨lw_p75, List.forall_mem_cons.mpr ⟨lw_p76, List.forall_mem_cons.mpr ⟨lw_p77, List.forall_mem_cons.mpr ⟨lw_p78, List.forall_mem_cons.mpr ⟨lw_p79, fun _ h => absurd h List.not_mem_nil⟩⟩⟩⟩⟩⟩⟩⟩⟩⟩⟩⟩⟩⟩⟩⟩
theorem lw_p80 : lw_okq (⟨"HillErrandsModel", "isThing", "(I)Z"⟩, 69) := ⟨⟨by decide +kernel, by decide +kernel⟩, List.mem_of_getElem? (i := 1162) (by decide +kernel), List.mem_of_getElem? (i := 1617) (by decide +kernel), List.mem_of_getElem? (i := 1618) (by decide +kernel)⟩
theorem lw_p81 : lw_okq (⟨"HillErrandsModel", "takesBy", "(II)I"⟩, 69) := ⟨⟨by decide +kernel, by decide +kernel⟩, List.mem_of_getElem? (i := 1162) (by decide +kernel), List.mem_of_getElem? (i := 1622) (by decide +kernel), List.mem_of_getElem? (i := 1623) (by decide +kernel)⟩
theorem lw_p82 : lw_okq (⟨"HillErrandsModel", "laysSent", "(I)V"⟩, 69) := ⟨⟨by decide +kernel, by decide +kernel⟩, List.mem_of_getElem? (i := 1162) (by decide +kernel), List.mem_of_getElem? (i := 1631) (by decide +kernel), List.mem_of_getElem? (i := 1632) (by decide +kernel)⟩
theorem lw_p83 : lw_okq (⟨"HillErrandsModel", "sentBy", "(IIII)I"⟩, 69) := ⟨⟨by decide +kernel, by decide +kernel⟩, List.mem_of_getElem? (i := 1162) (by decide +kernel), List.mem_of_getElem? (i := 1635) (by decide +kernel), List.mem_of_getElem? (i := 1636) (by decide +kernel)⟩
theorem lw_p84 : lw_okq (⟨"HillErrandsModel", "bringer", "(II)I"⟩, 69) := ⟨⟨by decide +kernel, by decide +kernel⟩, List.mem_of_getElem? (i := 1162) (by decide +kernel), List.mem_of_getElem? (i := 1641) (by decide +kernel), List.mem_of_getElem? (i := 1642) (by decide +kernel)⟩
theorem lw_p85 : lw_okq (⟨"HillErrandsModel", "laysBrings", "(I)V"⟩, 69) := ⟨⟨by decide +kernel, by decide +kernel⟩, List.mem_of_getElem? (i := 1162) (by decide +kernel), List.mem_of_getElem? (i := 1653) (by decide +kernel), List.mem_of_getElem? (i := 1654) (by decide +kernel)⟩
theorem lw_p86 : lw_okq (⟨"HillErrandsModel", "laysDry", "()V"⟩, 69) := ⟨⟨by decide +kernel, by decide +kernel⟩, List.mem_of_getElem? (i := 1162) (by decide +kernel), List.mem_of_getElem? (i := 1657) (by decide +kernel), List.mem_of_getElem? (i := 1658) (by decide +kernel)⟩
theorem lw_p87 : lw_okq (⟨"HillErrandsModel", "carriedBy", "(I)I"⟩, 69) := ⟨⟨by decide +kernel, by decide +kernel⟩, List.mem_of_getElem? (i := 1162) (by decide +kernel), List.mem_of_getElem? (i := 1661) (by decide +kernel), List.mem_of_getElem? (i := 1662) (by decide +kernel)⟩
theorem lw_p88 : lw_okq (⟨"HillErrandsModel", "shopsCost", "(I)I"⟩, 69) := ⟨⟨by decide +kernel, by decide +kernel⟩, List.mem_of_getElem? (i := 1162) (by decide +kernel), List.mem_of_getElem? (i := 1669) (by decide +kernel), List.mem_of_getElem? (i := 1670) (by decide +kernel)⟩
theorem lw_p89 : lw_okq (⟨"HillErrandsModel", "bothWays", "(II)I"⟩, 69) := ⟨⟨by decide +kernel, by decide +kernel⟩, List.mem_of_getElem? (i := 1162) (by decide +kernel), List.mem_of_getElem? (i := 1673) (by decide +kernel), List.mem_of_getElem? (i := 1674) (by decide +kernel)⟩
theorem lw_p90 : lw_okq (⟨"HillErrandsModel", "moves", "(I)Z"⟩, 69) := ⟨⟨by decide +kernel, by decide +kernel⟩, List.mem_of_getElem? (i := 1162) (by decide +kernel), List.mem_of_getElem? (i := 1685) (by decide +kernel), List.mem_of_getElem? (i := 1686) (by decide +kernel)⟩
theorem lw_p91 : lw_okq (⟨"HillErrandsModel", "comeTo", "(I)I"⟩, 69) := ⟨⟨by decide +kernel, by decide +kernel⟩, List.mem_of_getElem? (i := 1162) (by decide +kernel), List.mem_of_getElem? (i := 1689) (by decide +kernel), List.mem_of_getElem? (i := 1690) (by decide +kernel)⟩
theorem lw_p92 : lw_okq (⟨"HillErrandsModel", "shopFor", "(I)I"⟩, 69) := ⟨⟨by decide +kernel, by decide +kernel⟩, List.mem_of_getElem? (i := 1162) (by decide +kernel), List.mem_of_getElem? (i := 1693) (by decide +kernel), List.mem_of_getElem? (i := 1694) (by decide +kernel)⟩
theorem lw_p93 : lw_okq (⟨"HillErrandsModel", "costsAll", "()I"⟩, 69) := ⟨⟨by decide +kernel, by decide +kernel⟩, List.mem_of_getElem? (i := 1162) (by decide +kernel), List.mem_of_getElem? (i := 1701) (by decide +kernel), List.mem_of_getElem? (i := 1702) (by decide +kernel)⟩
theorem lw_p94 : lw_okq (⟨"HillErrandsModel", "meetBy", "(IIIZ)I"⟩, 69) := ⟨⟨by decide +kernel, by decide +kernel⟩, List.mem_of_getElem? (i := 1162) (by decide +kernel), List.mem_of_getElem? (i := 1709) (by decide +kernel), List.mem_of_getElem? (i := 1710) (by decide +kernel)⟩
theorem lw_p95 : lw_okq (⟨"HillErrandsModel", "laysFares", "()V"⟩, 69) := ⟨⟨by decide +kernel, by decide +kernel⟩, List.mem_of_getElem? (i := 1162) (by decide +kernel), List.mem_of_getElem? (i := 1721) (by decide +kernel), List.mem_of_getElem? (i := 1722) (by decide +kernel)⟩
def lw_privs_6 : List (MethodName × Nat) := [(⟨"HillErrandsModel", "isThing", "(I)Z"⟩, 69), (⟨"HillErrandsModel", "takesBy", "(II)I"⟩, 69), (⟨"HillErrandsModel", "laysSent", "(I)V"⟩, 69), (⟨"HillErrandsModel", "sentBy", "(IIII)I"⟩, 69), (⟨"HillErrandsModel", "bringer", "(II)I"⟩, 69), (⟨"HillErrandsModel", "laysBrings", "(I)V"⟩, 69), (⟨"HillErrandsModel", "laysDry", "()V"⟩, 69), (⟨"HillErrandsModel", "carriedBy", "(I)I"⟩, 69), (⟨"HillErrandsModel", "shopsCost", "(I)I"⟩, 69), (⟨"HillErrandsModel", "bothWays", "(II)I"⟩, 69), (⟨"HillErrandsModel", "moves", "(I)Z"⟩, 69), (⟨"HillErrandsModel", "comeTo", "(I)I"⟩, 69), (⟨"HillErrandsModel", "shopFor", "(I)I"⟩, 69), (⟨"HillErrandsModel", "costsAll", "()I"⟩, 69), (⟨"HillErrandsModel", "meetBy", "(IIIZ)I"⟩, 69), (⟨"HillErrandsModel", "laysFares", "()V"⟩, 69)]
theorem lw_r6 : ∀ q ∈ lw_privs_6, lw_okq q := List.forall_mem_cons.mpr ⟨lw_p80, List.forall_mem_cons.mpr ⟨lw_p81, List.forall_mem_cons.mpr ⟨lw_p82, List.forall_mem_cons.mpr ⟨lw_p83, List.forall_mem_cons.mpr ⟨lw_p84, List.forall_mem_cons.mpr ⟨lw_p85, List.forall_mem_cons.mpr ⟨lw_p86, List.forall_mem_cons.mpr ⟨lw_p87, List.forall_mem_cons.mpr ⟨lw_p88, List.forall_mem_cons.mpr ⟨lw_p89, List.forall_mem_cons.mpr ⟨lw_p90, List.forall_mem_cons.mpr ⟨lw_p91, List.forall_mem_cons.mpr ⟨lw_p92, List.forall_mem_cons.mpr ⟨lw_p93, List.forall_mem_cons.mpr ⟨lw_p94, List.forall_mem_cons.mpr ⟨lw_p95, fun _ h => absurd h List.not_mem_nil⟩⟩⟩⟩⟩⟩⟩⟩⟩⟩⟩⟩⟩⟩⟩⟩
theorem lw_p96 : lw_okq (⟨"HillErrandsModel", "joins", "(I)V"⟩, 69) := ⟨⟨by decide +kernel, by decide +kernel⟩, List.mem_of_getElem? (i := 1162) (by decide +kernel), List.mem_of_getElem? (i := 1725) (by decide +kernel), List.mem_of_getElem? (i := 1726) (by decide +kernel)⟩
theorem lw_p97 : lw_okq (⟨"HillErrandsModel", "tapeNumber", "(I)I"⟩, 69) := ⟨⟨by decide +kernel, by decide +kernel⟩, List.mem_of_getElem? (i := 1162) (by decide +kernel), List.mem_of_getElem? (i := 1755) (by decide +kernel), List.mem_of_getElem? (i := 1756) (by decide +kernel)⟩
def lw_privs_7 : List (MethodName × Nat) := [(⟨"HillErrandsModel", "joins", "(I)V"⟩, 69), (⟨"HillErrandsModel", "tapeNumber", "(I)I"⟩, 69)]
theorem lw_r7 : ∀ q ∈ lw_privs_7, lw_okq q := List.forall_mem_cons.mpr ⟨lw_p96, List.forall_mem_cons.mpr ⟨lw_p97, fun _ h => absurd h List.not_mem_nil⟩⟩
def lw_privs : List (MethodName × Nat) := lw_privs_1 ++ (lw_privs_2 ++ (lw_privs_3 ++ (lw_privs_4 ++ (lw_privs_5 ++ (lw_privs_6 ++ (lw_privs_7))))))
def lw_tbl : List Cond := k2_sels lw_privs ++ tables_1
theorem lw_privs_ok : ∀ q ∈ lw_privs, lw_okq q := by
  show ∀ q ∈ lw_privs_1 ++ (lw_privs_2 ++ (lw_privs_3 ++ (lw_privs_4 ++ (lw_privs_5 ++ (lw_privs_6 ++ (lw_privs_7)))))), lw_okq q
  exact List.forall_mem_append.mpr ⟨lw_r1, List.forall_mem_append.mpr ⟨lw_r2, List.forall_mem_append.mpr ⟨lw_r3, List.forall_mem_append.mpr ⟨lw_r4, List.forall_mem_append.mpr ⟨lw_r5, List.forall_mem_append.mpr ⟨lw_r6, lw_r7⟩⟩⟩⟩⟩⟩
-- ===== end of PART A; then your names; then what follows =====
end
section
def RX0 : String := "HillErrands$Fares"
def TX0 : u_T := fun k => match k with
  | 0 => ("HillErrands$Fares", "groups", "[I", true)
  | 1 => ("HillErrands$Fares", "levels", "[I", true)
  | 2 => ("HillErrands$Fares", "untrueOnes", "[I", true)
  | 3 => ("HillErrands$Fares", "told", "I", false)
  | _ => ("HillErrands$Fares", "untrue", "I", false)
def tyX0 : Nat → FieldType := fun k => match k with
  | 0 => .array .int
  | 1 => .array .int
  | 2 => .array .int
  | 3 => .int
  | _ => .int
theorem nmX0 : ∀ a, a < 5 → ∀ b, b < 5 → a ≠ b → (TX0 a).2.1 ≠ (TX0 b).2.1 := by decide +kernel
theorem tyX0_ok : ∀ k, k < 5 → parseFieldDescriptor (TX0 k).2.2.1 = some (tyX0 k) := by decide +kernel
abbrev cX0_init : ByteArray := prog_2_method_1_code
def yX0_init : MethodName := ⟨RX0, "<init>", "()V"⟩
abbrev cX0_add : ByteArray := prog_2_method_2_code
def yX0_add : MethodName := ⟨RX0, "add", "(III)I"⟩
abbrev cX0_join : ByteArray := prog_2_method_3_code
def yX0_join : MethodName := ⟨RX0, "join", "(III)V"⟩
abbrev cX0_apart : ByteArray := prog_2_method_4_code
def yX0_apart : MethodName := ⟨RX0, "apart", "(II)I"⟩
abbrev cX0_untrueAt : ByteArray := prog_2_method_5_code
def yX0_untrueAt : MethodName := ⟨RX0, "untrueAt", "(I)I"⟩
def RX1 : String := "HillErrands$Folk"
def TX1 : u_T := fun k => match k with
  | 0 => ("HillErrands$Folk", "ways", "LHillErrands$Ways;", true)
  | 1 => ("HillErrands$Folk", "begins", "[I", true)
  | 2 => ("HillErrands$Folk", "goals", "[I", true)
  | 3 => ("HillErrands$Folk", "carries", "[I", true)
  | 4 => ("HillErrands$Folk", "thingFrom", "[I", true)
  | 5 => ("HillErrands$Folk", "thingTo", "[I", true)
  | 6 => ("HillErrands$Folk", "thingWeight", "[I", true)
  | 7 => ("HillErrands$Folk", "bringings", "[I", true)
  | 8 => ("HillErrands$Folk", "plan", "[I", true)
  | 9 => ("HillErrands$Folk", "senders", "[I", true)
  | 10 => ("HillErrands$Folk", "people", "I", false)
  | _ => ("HillErrands$Folk", "things", "I", false)
def tyX1 : Nat → FieldType := fun k => match k with
  | 0 => .object "HillErrands$Ways"
  | 1 => .array .int
  | 2 => .array .int
  | 3 => .array .int
  | 4 => .array .int
  | 5 => .array .int
  | 6 => .array .int
  | 7 => .array .int
  | 8 => .array .int
  | 9 => .array .int
  | 10 => .int
  | _ => .int
theorem nmX1 : ∀ a, a < 12 → ∀ b, b < 12 → a ≠ b → (TX1 a).2.1 ≠ (TX1 b).2.1 := by decide +kernel
theorem tyX1_ok : ∀ k, k < 12 → parseFieldDescriptor (TX1 k).2.2.1 = some (tyX1 k) := by decide +kernel
abbrev cX1_init : ByteArray := prog_3_method_1_code
def yX1_init : MethodName := ⟨RX1, "<init>", "(LHillErrands$Ways;)V"⟩
abbrev cX1_addPerson : ByteArray := prog_3_method_2_code
def yX1_addPerson : MethodName := ⟨RX1, "addPerson", "(III)I"⟩
abbrev cX1_beginOf : ByteArray := prog_3_method_3_code
def yX1_beginOf : MethodName := ⟨RX1, "beginOf", "(I)I"⟩
abbrev cX1_goalOf : ByteArray := prog_3_method_4_code
def yX1_goalOf : MethodName := ⟨RX1, "goalOf", "(I)I"⟩
abbrev cX1_carriedBy : ByteArray := prog_3_method_5_code
def yX1_carriedBy : MethodName := ⟨RX1, "carriedBy", "(I)I"⟩
abbrev cX1_tellThing : ByteArray := prog_3_method_6_code
def yX1_tellThing : MethodName := ⟨RX1, "tellThing", "(IIII)V"⟩
abbrev cX1_freshen : ByteArray := prog_3_method_7_code
def yX1_freshen : MethodName := ⟨RX1, "freshen", "(I)V"⟩
abbrev cX1_bringing : ByteArray := prog_3_method_8_code
def yX1_bringing : MethodName := ⟨RX1, "bringing", "(II)I"⟩
abbrev cX1_send : ByteArray := prog_3_method_9_code
def yX1_send : MethodName := ⟨RX1, "send", "(I)V"⟩
abbrev cX1_bestSender : ByteArray := prog_3_method_10_code
def yX1_bestSender : MethodName := ⟨RX1, "bestSender", "(II)I"⟩
abbrev cX1_weigh : ByteArray := prog_3_method_11_code
def yX1_weigh : MethodName := ⟨RX1, "weigh", "(III)I"⟩
abbrev cX1_senderOf : ByteArray := prog_3_method_12_code
def yX1_senderOf : MethodName := ⟨RX1, "senderOf", "(I)I"⟩
abbrev cX1_sentOf : ByteArray := prog_3_method_13_code
def yX1_sentOf : MethodName := ⟨RX1, "sentOf", "(I)I"⟩
abbrev cX1_costOfSent : ByteArray := prog_3_method_14_code
def yX1_costOfSent : MethodName := ⟨RX1, "costOfSent", "(I)I"⟩
def RX2 : String := "HillErrands$Law"
def TX2 : u_T := fun k => match k with
  | 0 => ("HillErrands$Law", "signs", "[I", true)
  | 1 => ("HillErrands$Law", "with", "[I", true)
  | 2 => ("HillErrands$Law", "size", "I", false)
  | 3 => ("HillErrands$Law", "kinds", "[I", true)
  | 4 => ("HillErrands$Law", "priceFrom", "[I", true)
  | 5 => ("HillErrands$Law", "conditionFrom", "[I", true)
  | 6 => ("HillErrands$Law", "conditionTo", "[I", true)
  | 7 => ("HillErrands$Law", "clauses", "I", false)
  | 8 => ("HillErrands$Law", "loadMatters", "Z", false)
  | 9 => ("HillErrands$Law", "stack", "[I", true)
  | _ => ("HillErrands$Law", "refused", "Z", false)
def tyX2 : Nat → FieldType := fun k => match k with
  | 0 => .array .int
  | 1 => .array .int
  | 2 => .int
  | 3 => .array .int
  | 4 => .array .int
  | 5 => .array .int
  | 6 => .array .int
  | 7 => .int
  | 8 => .boolean
  | 9 => .array .int
  | _ => .boolean
theorem nmX2 : ∀ a, a < 11 → ∀ b, b < 11 → a ≠ b → (TX2 a).2.1 ≠ (TX2 b).2.1 := by decide +kernel
theorem tyX2_ok : ∀ k, k < 11 → parseFieldDescriptor (TX2 k).2.2.1 = some (tyX2 k) := by decide +kernel
abbrev cX2_init : ByteArray := prog_4_method_1_code
def yX2_init : MethodName := ⟨RX2, "<init>", "()V"⟩
abbrev cX2_clear : ByteArray := prog_4_method_2_code
def yX2_clear : MethodName := ⟨RX2, "clear", "()V"⟩
abbrev cX2_isFull : ByteArray := prog_4_method_3_code
def yX2_isFull : MethodName := ⟨RX2, "isFull", "()Z"⟩
abbrev cX2_beginClause : ByteArray := prog_4_method_4_code
def yX2_beginClause : MethodName := ⟨RX2, "beginClause", "(I)V"⟩
abbrev cX2_beginCondition : ByteArray := prog_4_method_5_code
def yX2_beginCondition : MethodName := ⟨RX2, "beginCondition", "()V"⟩
abbrev cX2_endClause : ByteArray := prog_4_method_6_code
def yX2_endClause : MethodName := ⟨RX2, "endClause", "()V"⟩
abbrev cX2_emit : ByteArray := prog_4_method_7_code
def yX2_emit : MethodName := ⟨RX2, "emit", "(II)V"⟩
abbrev cX2_link : ByteArray := prog_4_method_8_code
def yX2_link : MethodName := ⟨RX2, "link", "(II)I"⟩
abbrev cX2_land : ByteArray := prog_4_method_9_code
def yX2_land : MethodName := ⟨RX2, "land", "(I)V"⟩
abbrev cX2_price : ByteArray := prog_4_method_10_code
def yX2_price : MethodName := ⟨RX2, "price", "([I)I"⟩
abbrev cX2_reckon : ByteArray := prog_4_method_11_code
def yX2_reckon : MethodName := ⟨RX2, "reckon", "(II[I)I"⟩
abbrev cX2_joined : ByteArray := prog_4_method_12_code
def yX2_joined : MethodName := ⟨RX2, "joined", "(III)I"⟩
def RX3 : String := "HillErrands$Market"
def TX3 : u_T := fun k => match k with
  | 0 => ("HillErrands$Market", "town", "LHillErrands$Town;", true)
  | 1 => ("HillErrands$Market", "ways", "LHillErrands$Ways;", true)
  | 2 => ("HillErrands$Market", "folk", "LHillErrands$Folk;", true)
  | 3 => ("HillErrands$Market", "trips", "[I", true)
  | _ => ("HillErrands$Market", "spots", "[I", true)
def tyX3 : Nat → FieldType := fun k => match k with
  | 0 => .object "HillErrands$Town"
  | 1 => .object "HillErrands$Ways"
  | 2 => .object "HillErrands$Folk"
  | 3 => .array .int
  | _ => .array .int
theorem nmX3 : ∀ a, a < 5 → ∀ b, b < 5 → a ≠ b → (TX3 a).2.1 ≠ (TX3 b).2.1 := by decide +kernel
theorem tyX3_ok : ∀ k, k < 5 → parseFieldDescriptor (TX3 k).2.2.1 = some (tyX3 k) := by decide +kernel
abbrev cX3_init : ByteArray := prog_5_method_1_code
def yX3_init : MethodName := ⟨RX3, "<init>", "(LHillErrands$Town;LHillErrands$Ways;LHillErrands$Folk;)V"⟩
abbrev cX3_measure : ByteArray := prog_5_method_2_code
def yX3_measure : MethodName := ⟨RX3, "measure", "()V"⟩
abbrev cX3_spotOf : ByteArray := prog_5_method_3_code
def yX3_spotOf : MethodName := ⟨RX3, "spotOf", "(I)I"⟩
abbrev cX3_costsOfSet : ByteArray := prog_5_method_4_code
def yX3_costsOfSet : MethodName := ⟨RX3, "costsOfSet", "(I)I"⟩
abbrev cX3_costs : ByteArray := prog_5_method_5_code
def yX3_costs : MethodName := ⟨RX3, "costs", "(III)I"⟩
abbrev cX3_settle : ByteArray := prog_5_method_6_code
def yX3_settle : MethodName := ⟨RX3, "settle", "(I)I"⟩
abbrev cX3_open : ByteArray := prog_5_method_7_code
def yX3_open : MethodName := ⟨RX3, "open", "(II)Z"⟩
abbrev cX3_moveAll : ByteArray := prog_5_method_8_code
def yX3_moveAll : MethodName := ⟨RX3, "moveAll", "(I)I"⟩
abbrev cX3_likedSpot : ByteArray := prog_5_method_9_code
def yX3_likedSpot : MethodName := ⟨RX3, "likedSpot", "(II)I"⟩
abbrev cX3_comersTo : ByteArray := prog_5_method_10_code
def yX3_comersTo : MethodName := ⟨RX3, "comersTo", "(II)I"⟩
abbrev cX3_nearestTo : ByteArray := prog_5_method_11_code
def yX3_nearestTo : MethodName := ⟨RX3, "nearestTo", "(II)I"⟩
def RX4 : String := "HillErrands$Mason"
def TX4 : u_T := fun k => match k with
  | 0 => ("HillErrands$Mason", "town", "LHillErrands$Town;", true)
  | 1 => ("HillErrands$Mason", "ways", "LHillErrands$Ways;", true)
  | 2 => ("HillErrands$Mason", "folk", "LHillErrands$Folk;", true)
  | 3 => ("HillErrands$Mason", "first", "I", false)
  | 4 => ("HillErrands$Mason", "second", "I", false)
  | _ => ("HillErrands$Mason", "costs", "I", false)
def tyX4 : Nat → FieldType := fun k => match k with
  | 0 => .object "HillErrands$Town"
  | 1 => .object "HillErrands$Ways"
  | 2 => .object "HillErrands$Folk"
  | 3 => .int
  | 4 => .int
  | _ => .int
theorem nmX4 : ∀ a, a < 6 → ∀ b, b < 6 → a ≠ b → (TX4 a).2.1 ≠ (TX4 b).2.1 := by decide +kernel
theorem tyX4_ok : ∀ k, k < 6 → parseFieldDescriptor (TX4 k).2.2.1 = some (tyX4 k) := by decide +kernel
abbrev cX4_init : ByteArray := prog_6_method_1_code
def yX4_init : MethodName := ⟨RX4, "<init>", "(LHillErrands$Town;LHillErrands$Ways;LHillErrands$Folk;)V"⟩
abbrev cX4_planned : ByteArray := prog_6_method_2_code
def yX4_planned : MethodName := ⟨RX4, "planned", "(I)I"⟩
abbrev cX4_plan : ByteArray := prog_6_method_3_code
def yX4_plan : MethodName := ⟨RX4, "plan", "(I)V"⟩
abbrev cX4_costsWith : ByteArray := prog_6_method_4_code
def yX4_costsWith : MethodName := ⟨RX4, "costsWith", "(III)I"⟩
def RX5 : String := "HillErrands$Reader"
def TX5 : u_T := fun k => match k with
  | 0 => ("HillErrands$Reader", "text", "[I", true)
  | 1 => ("HillErrands$Reader", "draft", "LHillErrands$Law;", false)
  | 2 => ("HillErrands$Reader", "at", "I", false)
  | 3 => ("HillErrands$Reader", "end", "I", false)
  | _ => ("HillErrands$Reader", "fault", "I", false)
def tyX5 : Nat → FieldType := fun k => match k with
  | 0 => .array .int
  | 1 => .object "HillErrands$Law"
  | 2 => .int
  | 3 => .int
  | _ => .int
theorem nmX5 : ∀ a, a < 5 → ∀ b, b < 5 → a ≠ b → (TX5 a).2.1 ≠ (TX5 b).2.1 := by decide +kernel
theorem tyX5_ok : ∀ k, k < 5 → parseFieldDescriptor (TX5 k).2.2.1 = some (tyX5 k) := by decide +kernel
abbrev cX5_init : ByteArray := prog_7_method_1_code
def yX5_init : MethodName := ⟨RX5, "<init>", "()V"⟩
abbrev cX5_read : ByteArray := prog_7_method_2_code
def yX5_read : MethodName := ⟨RX5, "read", "(LHillErrands$Tape;I)I"⟩
abbrev cX5_exchange : ByteArray := prog_7_method_3_code
def yX5_exchange : MethodName := ⟨RX5, "exchange", "(LHillErrands$Law;)LHillErrands$Law;"⟩
abbrev cX5_sign : ByteArray := prog_7_method_4_code
def yX5_sign : MethodName := ⟨RX5, "sign", "()I"⟩
abbrev cX5_fail : ByteArray := prog_7_method_5_code
def yX5_fail : MethodName := ⟨RX5, "fail", "(I)V"⟩
abbrev cX5_take : ByteArray := prog_7_method_6_code
def yX5_take : MethodName := ⟨RX5, "take", "(I)V"⟩
abbrev cX5_clause : ByteArray := prog_7_method_7_code
def yX5_clause : MethodName := ⟨RX5, "clause", "()V"⟩
abbrev cX5_condition : ByteArray := prog_7_method_8_code
def yX5_condition : MethodName := ⟨RX5, "condition", "(I)V"⟩
abbrev cX5_part : ByteArray := prog_7_method_9_code
def yX5_part : MethodName := ⟨RX5, "part", "(I)V"⟩
abbrev cX5_piece : ByteArray := prog_7_method_10_code
def yX5_piece : MethodName := ⟨RX5, "piece", "(I)V"⟩
abbrev cX5_comparison : ByteArray := prog_7_method_11_code
def yX5_comparison : MethodName := ⟨RX5, "comparison", "(I)V"⟩
abbrev cX5_sum : ByteArray := prog_7_method_12_code
def yX5_sum : MethodName := ⟨RX5, "sum", "(I)V"⟩
abbrev cX5_term : ByteArray := prog_7_method_13_code
def yX5_term : MethodName := ⟨RX5, "term", "(I)V"⟩
abbrev cX5_factor : ByteArray := prog_7_method_14_code
def yX5_factor : MethodName := ⟨RX5, "factor", "(I)V"⟩
abbrev cX5_number : ByteArray := prog_7_method_15_code
def yX5_number : MethodName := ⟨RX5, "number", "()V"⟩
abbrev cX5_letter : ByteArray := prog_7_method_16_code
def yX5_letter : MethodName := ⟨RX5, "letter", "(I)V"⟩
abbrev cX5_isDigit : ByteArray := prog_7_method_17_code
def yX5_isDigit : MethodName := ⟨RX5, "isDigit", "(I)Z"⟩
def RX6 : String := "HillErrands$Rounds"
def TX6 : u_T := fun k => match k with
  | 0 => ("HillErrands$Rounds", "ways", "LHillErrands$Ways;", true)
  | 1 => ("HillErrands$Rounds", "spots", "[I", true)
  | 2 => ("HillErrands$Rounds", "weights", "[I", true)
  | 3 => ("HillErrands$Rounds", "worths", "[I", true)
  | 4 => ("HillErrands$Rounds", "order", "[I", true)
  | 5 => ("HillErrands$Rounds", "least", "[I", true)
  | _ => ("HillErrands$Rounds", "told", "I", false)
def tyX6 : Nat → FieldType := fun k => match k with
  | 0 => .object "HillErrands$Ways"
  | 1 => .array .int
  | 2 => .array .int
  | 3 => .array .int
  | 4 => .array .int
  | 5 => .array .int
  | _ => .int
theorem nmX6 : ∀ a, a < 7 → ∀ b, b < 7 → a ≠ b → (TX6 a).2.1 ≠ (TX6 b).2.1 := by decide +kernel
theorem tyX6_ok : ∀ k, k < 7 → parseFieldDescriptor (TX6 k).2.2.1 = some (tyX6 k) := by decide +kernel
abbrev cX6_init : ByteArray := prog_8_method_1_code
def yX6_init : MethodName := ⟨RX6, "<init>", "(LHillErrands$Ways;)V"⟩
abbrev cX6_tell : ByteArray := prog_8_method_2_code
def yX6_tell : MethodName := ⟨RX6, "tell", "(IIII)V"⟩
abbrev cX6_worthOf : ByteArray := prog_8_method_3_code
def yX6_worthOf : MethodName := ⟨RX6, "worthOf", "(I)I"⟩
abbrev cX6_loadOf : ByteArray := prog_8_method_4_code
def yX6_loadOf : MethodName := ⟨RX6, "loadOf", "(I)I"⟩
abbrev cX6_freshen : ByteArray := prog_8_method_5_code
def yX6_freshen : MethodName := ⟨RX6, "freshen", "(I)V"⟩
abbrev cX6_readOrder : ByteArray := prog_8_method_6_code
def yX6_readOrder : MethodName := ⟨RX6, "readOrder", "(LHillErrands$Tape;I)Z"⟩
abbrev cX6_costInOrder : ByteArray := prog_8_method_7_code
def yX6_costInOrder : MethodName := ⟨RX6, "costInOrder", "(II)I"⟩
abbrev cX6_separate : ByteArray := prog_8_method_8_code
def yX6_separate : MethodName := ⟨RX6, "separate", "(II)I"⟩
abbrev cX6_finish : ByteArray := prog_8_method_9_code
def yX6_finish : MethodName := ⟨RX6, "finish", "(II)I"⟩
abbrev cX6_through : ByteArray := prog_8_method_10_code
def yX6_through : MethodName := ⟨RX6, "through", "(IIII)I"⟩
abbrev cX6_firstBest : ByteArray := prog_8_method_11_code
def yX6_firstBest : MethodName := ⟨RX6, "firstBest", "(IIII)I"⟩
abbrev cX6_inBestOrder : ByteArray := prog_8_method_12_code
def yX6_inBestOrder : MethodName := ⟨RX6, "inBestOrder", "(III)I"⟩
abbrev cX6_spread : ByteArray := prog_8_method_13_code
def yX6_spread : MethodName := ⟨RX6, "spread", "(I)V"⟩
abbrev cX6_spreadFrom : ByteArray := prog_8_method_14_code
def yX6_spreadFrom : MethodName := ⟨RX6, "spreadFrom", "(I)V"⟩
abbrev cX6_closed : ByteArray := prog_8_method_15_code
def yX6_closed : MethodName := ⟨RX6, "closed", "(II)I"⟩
abbrev cX6_setOfDay : ByteArray := prog_8_method_16_code
def yX6_setOfDay : MethodName := ⟨RX6, "setOfDay", "(II)I"⟩
def RX7 : String := "HillErrands$Tape"
def TX7 : u_T := fun k => match k with
  | 0 => ("HillErrands$Tape", "bytes", "[I", true)
  | _ => ("HillErrands$Tape", "size", "I", false)
def tyX7 : Nat → FieldType := fun k => match k with
  | 0 => .array .int
  | _ => .int
theorem nmX7 : ∀ a, a < 2 → ∀ b, b < 2 → a ≠ b → (TX7 a).2.1 ≠ (TX7 b).2.1 := by decide +kernel
theorem tyX7_ok : ∀ k, k < 2 → parseFieldDescriptor (TX7 k).2.2.1 = some (tyX7 k) := by decide +kernel
abbrev cX7_init : ByteArray := prog_9_method_1_code
def yX7_init : MethodName := ⟨RX7, "<init>", "()V"⟩
abbrev cX7_size : ByteArray := prog_9_method_2_code
def yX7_size : MethodName := ⟨RX7, "size", "()I"⟩
abbrev cX7_hasRoom : ByteArray := prog_9_method_3_code
def yX7_hasRoom : MethodName := ⟨RX7, "hasRoom", "(I)Z"⟩
abbrev cX7_append : ByteArray := prog_9_method_4_code
def yX7_append : MethodName := ⟨RX7, "append", "(I)V"⟩
abbrev cX7_byteAt : ByteArray := prog_9_method_5_code
def yX7_byteAt : MethodName := ⟨RX7, "byteAt", "(I)I"⟩
abbrev cX7_numberAt : ByteArray := prog_9_method_6_code
def yX7_numberAt : MethodName := ⟨RX7, "numberAt", "(I)I"⟩
abbrev cX7_clear : ByteArray := prog_9_method_7_code
def yX7_clear : MethodName := ⟨RX7, "clear", "()V"⟩
def RX8 : String := "HillErrands$Town"
def TX8 : u_T := fun k => match k with
  | 0 => ("HillErrands$Town", "heights", "[I", true)
  | 1 => ("HillErrands$Town", "wanted", "[I", true)
  | 2 => ("HillErrands$Town", "firsts", "[I", true)
  | 3 => ("HillErrands$Town", "seconds", "[I", true)
  | 4 => ("HillErrands$Town", "sorts", "[I", true)
  | 5 => ("HillErrands$Town", "letters", "[I", true)
  | 6 => ("HillErrands$Town", "law", "LHillErrands$Law;", false)
  | 7 => ("HillErrands$Town", "season", "I", false)
  | 8 => ("HillErrands$Town", "keptStairs", "I", false)
  | 9 => ("HillErrands$Town", "keptSeason", "I", false)
  | 10 => ("HillErrands$Town", "places", "I", false)
  | 11 => ("HillErrands$Town", "stairs", "I", false)
  | _ => ("HillErrands$Town", "version", "I", false)
def tyX8 : Nat → FieldType := fun k => match k with
  | 0 => .array .int
  | 1 => .array .int
  | 2 => .array .int
  | 3 => .array .int
  | 4 => .array .int
  | 5 => .array .int
  | 6 => .object "HillErrands$Law"
  | 7 => .int
  | 8 => .int
  | 9 => .int
  | 10 => .int
  | 11 => .int
  | _ => .int
theorem nmX8 : ∀ a, a < 13 → ∀ b, b < 13 → a ≠ b → (TX8 a).2.1 ≠ (TX8 b).2.1 := by decide +kernel
theorem tyX8_ok : ∀ k, k < 13 → parseFieldDescriptor (TX8 k).2.2.1 = some (tyX8 k) := by decide +kernel
abbrev cX8_init : ByteArray := prog_10_method_1_code
def yX8_init : MethodName := ⟨RX8, "<init>", "()V"⟩
abbrev cX8_isPlace : ByteArray := prog_10_method_2_code
def yX8_isPlace : MethodName := ⟨RX8, "isPlace", "(I)Z"⟩
abbrev cX8_heightOf : ByteArray := prog_10_method_3_code
def yX8_heightOf : MethodName := ⟨RX8, "heightOf", "(I)I"⟩
abbrev cX8_isSlope : ByteArray := prog_10_method_4_code
def yX8_isSlope : MethodName := ⟨RX8, "isSlope", "(II)Z"⟩
abbrev cX8_addPlace : ByteArray := prog_10_method_5_code
def yX8_addPlace : MethodName := ⟨RX8, "addPlace", "(I)I"⟩
abbrev cX8_addStair : ByteArray := prog_10_method_6_code
def yX8_addStair : MethodName := ⟨RX8, "addStair", "(III)I"⟩
abbrev cX8_firstOf : ByteArray := prog_10_method_7_code
def yX8_firstOf : MethodName := ⟨RX8, "firstOf", "(I)I"⟩
abbrev cX8_secondOf : ByteArray := prog_10_method_8_code
def yX8_secondOf : MethodName := ⟨RX8, "secondOf", "(I)I"⟩
abbrev cX8_currentSeason : ByteArray := prog_10_method_9_code
def yX8_currentSeason : MethodName := ⟨RX8, "currentSeason", "()I"⟩
abbrev cX8_turnTo : ByteArray := prog_10_method_10_code
def yX8_turnTo : MethodName := ⟨RX8, "turnTo", "(I)V"⟩
abbrev cX8_mark : ByteArray := prog_10_method_11_code
def yX8_mark : MethodName := ⟨RX8, "mark", "()V"⟩
abbrev cX8_fallBack : ByteArray := prog_10_method_12_code
def yX8_fallBack : MethodName := ⟨RX8, "fallBack", "()Z"⟩
abbrev cX8_currentLaw : ByteArray := prog_10_method_13_code
def yX8_currentLaw : MethodName := ⟨RX8, "currentLaw", "()LHillErrands$Law;"⟩
abbrev cX8_setLaw : ByteArray := prog_10_method_14_code
def yX8_setLaw : MethodName := ⟨RX8, "setLaw", "(LHillErrands$Law;)V"⟩
abbrev cX8_clauses : ByteArray := prog_10_method_15_code
def yX8_clauses : MethodName := ⟨RX8, "clauses", "()I"⟩
abbrev cX8_loadMatters : ByteArray := prog_10_method_16_code
def yX8_loadMatters : MethodName := ⟨RX8, "loadMatters", "()Z"⟩
abbrev cX8_wantedAt : ByteArray := prog_10_method_17_code
def yX8_wantedAt : MethodName := ⟨RX8, "wantedAt", "(I)I"⟩
abbrev cX8_setWanted : ByteArray := prog_10_method_18_code
def yX8_setWanted : MethodName := ⟨RX8, "setWanted", "(II)V"⟩
abbrev cX8_wantedTogether : ByteArray := prog_10_method_19_code
def yX8_wantedTogether : MethodName := ⟨RX8, "wantedTogether", "()I"⟩
abbrev cX8_along : ByteArray := prog_10_method_20_code
def yX8_along : MethodName := ⟨RX8, "along", "(IZI)I"⟩
abbrev cX8_alongNew : ByteArray := prog_10_method_21_code
def yX8_alongNew : MethodName := ⟨RX8, "alongNew", "(III)I"⟩
abbrev cX8_putPlaces : ByteArray := prog_10_method_22_code
def yX8_putPlaces : MethodName := ⟨RX8, "putPlaces", "(II)V"⟩
abbrev cX8_putStair : ByteArray := prog_10_method_23_code
def yX8_putStair : MethodName := ⟨RX8, "putStair", "(III)V"⟩
def RX9 : String := "HillErrands$Ways"
def TX9 : u_T := fun k => match k with
  | 0 => ("HillErrands$Ways", "town", "LHillErrands$Town;", true)
  | 1 => ("HillErrands$Ways", "tables", "[[I", true)
  | 2 => ("HillErrands$Ways", "versions", "[I", true)
  | 3 => ("HillErrands$Ways", "row", "[I", true)
  | _ => ("HillErrands$Ways", "walked", "I", false)
def tyX9 : Nat → FieldType := fun k => match k with
  | 0 => .object "HillErrands$Town"
  | 1 => .array (.array .int)
  | 2 => .array .int
  | 3 => .array .int
  | _ => .int
theorem nmX9 : ∀ a, a < 5 → ∀ b, b < 5 → a ≠ b → (TX9 a).2.1 ≠ (TX9 b).2.1 := by decide +kernel
theorem tyX9_ok : ∀ k, k < 5 → parseFieldDescriptor (TX9 k).2.2.1 = some (tyX9 k) := by decide +kernel
abbrev cX9_init : ByteArray := prog_11_method_1_code
def yX9_init : MethodName := ⟨RX9, "<init>", "(LHillErrands$Town;)V"⟩
abbrev cX9_freshen : ByteArray := prog_11_method_2_code
def yX9_freshen : MethodName := ⟨RX9, "freshen", "(I)V"⟩
abbrev cX9_cost : ByteArray := prog_11_method_3_code
def yX9_cost : MethodName := ⟨RX9, "cost", "(III)I"⟩
abbrev cX9_trip : ByteArray := prog_11_method_4_code
def yX9_trip : MethodName := ⟨RX9, "trip", "(II)I"⟩
abbrev cX9_walk : ByteArray := prog_11_method_5_code
def yX9_walk : MethodName := ⟨RX9, "walk", "(III)I"⟩
abbrev cX9_onWalk : ByteArray := prog_11_method_6_code
def yX9_onWalk : MethodName := ⟨RX9, "onWalk", "(I)I"⟩
abbrev cX9_following : ByteArray := prog_11_method_7_code
def yX9_following : MethodName := ⟨RX9, "following", "(III)I"⟩
abbrev cX9_slotOf : ByteArray := prog_11_method_8_code
def yX9_slotOf : MethodName := ⟨RX9, "slotOf", "(I)I"⟩
abbrev cX9_keyOf : ByteArray := prog_11_method_9_code
def yX9_keyOf : MethodName := ⟨RX9, "keyOf", "(III)I"⟩
abbrev cX9_lay : ByteArray := prog_11_method_10_code
def yX9_lay : MethodName := ⟨RX9, "lay", "([II)V"⟩
abbrev cX9_lower : ByteArray := prog_11_method_11_code
def yX9_lower : MethodName := ⟨RX9, "lower", "([III)V"⟩
abbrev cX9_shorten : ByteArray := prog_11_method_12_code
def yX9_shorten : MethodName := ⟨RX9, "shorten", "([I)V"⟩
def RX10 : String := "HillErrands$Wells"
def TX10 : u_T := fun k => match k with
  | 0 => ("HillErrands$Wells", "town", "LHillErrands$Town;", true)
  | 1 => ("HillErrands$Wells", "ways", "LHillErrands$Ways;", true)
  | 2 => ("HillErrands$Wells", "folk", "LHillErrands$Folk;", true)
  | 3 => ("HillErrands$Wells", "bringers", "[I", true)
  | 4 => ("HillErrands$Wells", "lack", "I", false)
  | _ => ("HillErrands$Wells", "dry", "I", false)
def tyX10 : Nat → FieldType := fun k => match k with
  | 0 => .object "HillErrands$Town"
  | 1 => .object "HillErrands$Ways"
  | 2 => .object "HillErrands$Folk"
  | 3 => .array .int
  | 4 => .int
  | _ => .int
theorem nmX10 : ∀ a, a < 6 → ∀ b, b < 6 → a ≠ b → (TX10 a).2.1 ≠ (TX10 b).2.1 := by decide +kernel
theorem tyX10_ok : ∀ k, k < 6 → parseFieldDescriptor (TX10 k).2.2.1 = some (tyX10 k) := by decide +kernel
abbrev cX10_init : ByteArray := prog_12_method_1_code
def yX10_init : MethodName := ⟨RX10, "<init>", "(LHillErrands$Town;LHillErrands$Ways;LHillErrands$Folk;)V"⟩
abbrev cX10_lacking : ByteArray := prog_12_method_2_code
def yX10_lacking : MethodName := ⟨RX10, "lacking", "()I"⟩
abbrev cX10_drySet : ByteArray := prog_12_method_3_code
def yX10_drySet : MethodName := ⟨RX10, "drySet", "()I"⟩
abbrev cX10_lookFrom : ByteArray := prog_12_method_4_code
def yX10_lookFrom : MethodName := ⟨RX10, "lookFrom", "(I)V"⟩
abbrev cX10_findBringers : ByteArray := prog_12_method_5_code
def yX10_findBringers : MethodName := ⟨RX10, "findBringers", "(I)V"⟩
abbrev cX10_servedAloneBy : ByteArray := prog_12_method_6_code
def yX10_servedAloneBy : MethodName := ⟨RX10, "servedAloneBy", "(I)I"⟩
abbrev cX10_wantedBy : ByteArray := prog_12_method_7_code
def yX10_wantedBy : MethodName := ⟨RX10, "wantedBy", "(I)I"⟩
abbrev cX10_carriedBy : ByteArray := prog_12_method_8_code
def yX10_carriedBy : MethodName := ⟨RX10, "carriedBy", "(I)I"⟩
def RX11 : String := "HillErrands"
def TX11 : u_T := fun k => match k with
  | 0 => ("HillErrands", "tape", "LHillErrands$Tape;", true)
  | 1 => ("HillErrands", "reader", "LHillErrands$Reader;", true)
  | 2 => ("HillErrands", "town", "LHillErrands$Town;", true)
  | 3 => ("HillErrands", "ways", "LHillErrands$Ways;", true)
  | 4 => ("HillErrands", "rounds", "LHillErrands$Rounds;", true)
  | 5 => ("HillErrands", "folk", "LHillErrands$Folk;", true)
  | 6 => ("HillErrands", "wells", "LHillErrands$Wells;", true)
  | 7 => ("HillErrands", "market", "LHillErrands$Market;", true)
  | 8 => ("HillErrands", "mason", "LHillErrands$Mason;", true)
  | 9 => ("HillErrands", "fares", "LHillErrands$Fares;", true)
  | _ => ("HillErrands", "x", "I", false)
def tyX11 : Nat → FieldType := fun k => match k with
  | 0 => .object "HillErrands$Tape"
  | 1 => .object "HillErrands$Reader"
  | 2 => .object "HillErrands$Town"
  | 3 => .object "HillErrands$Ways"
  | 4 => .object "HillErrands$Rounds"
  | 5 => .object "HillErrands$Folk"
  | 6 => .object "HillErrands$Wells"
  | 7 => .object "HillErrands$Market"
  | 8 => .object "HillErrands$Mason"
  | 9 => .object "HillErrands$Fares"
  | _ => .int
theorem nmX11 : ∀ a, a < 11 → ∀ b, b < 11 → a ≠ b → (TX11 a).2.1 ≠ (TX11 b).2.1 := by decide +kernel
theorem tyX11_ok : ∀ k, k < 11 → parseFieldDescriptor (TX11 k).2.2.1 = some (tyX11 k) := by decide +kernel
abbrev cX11_init : ByteArray := prog_1_method_1_code
def yX11_init : MethodName := ⟨RX11, "<init>", "()V"⟩
abbrev cX11_place : ByteArray := prog_1_method_2_code
def yX11_place : MethodName := ⟨RX11, "place", "(I)I"⟩
abbrev cX11_stair : ByteArray := prog_1_method_3_code
def yX11_stair : MethodName := ⟨RX11, "stair", "(III)I"⟩
abbrev cX11_season : ByteArray := prog_1_method_4_code
def yX11_season : MethodName := ⟨RX11, "season", "(I)Z"⟩
abbrev cX11_feed : ByteArray := prog_1_method_5_code
def yX11_feed : MethodName := ⟨RX11, "feed", "(IIIII)I"⟩
abbrev cX11_law : ByteArray := prog_1_method_6_code
def yX11_law : MethodName := ⟨RX11, "law", "(I)I"⟩
abbrev cX11_going : ByteArray := prog_1_method_7_code
def yX11_going : MethodName := ⟨RX11, "going", "(IZI)I"⟩
abbrev cX11_way : ByteArray := prog_1_method_8_code
def yX11_way : MethodName := ⟨RX11, "way", "(IIII)I"⟩
abbrev cX11_errand : ByteArray := prog_1_method_9_code
def yX11_errand : MethodName := ⟨RX11, "errand", "(IIII)Z"⟩
abbrev cX11_round : ByteArray := prog_1_method_10_code
def yX11_round : MethodName := ⟨RX11, "round", "(II)I"⟩
abbrev cX11_best : ByteArray := prog_1_method_11_code
def yX11_best : MethodName := ⟨RX11, "best", "(III)I"⟩
abbrev cX11_day : ByteArray := prog_1_method_12_code
def yX11_day : MethodName := ⟨RX11, "day", "(III)I"⟩
abbrev cX11_person : ByteArray := prog_1_method_13_code
def yX11_person : MethodName := ⟨RX11, "person", "(III)I"⟩
abbrev cX11_thing : ByteArray := prog_1_method_14_code
def yX11_thing : MethodName := ⟨RX11, "thing", "(IIII)Z"⟩
abbrev cX11_brought : ByteArray := prog_1_method_15_code
def yX11_brought : MethodName := ⟨RX11, "brought", "(II)I"⟩
abbrev cX11_sent : ByteArray := prog_1_method_16_code
def yX11_sent : MethodName := ⟨RX11, "sent", "(II)I"⟩
abbrev cX11_wants : ByteArray := prog_1_method_17_code
def yX11_wants : MethodName := ⟨RX11, "wants", "(II)Z"⟩
abbrev cX11_water : ByteArray := prog_1_method_18_code
def yX11_water : MethodName := ⟨RX11, "water", "(II)I"⟩
abbrev cX11_shops : ByteArray := prog_1_method_19_code
def yX11_shops : MethodName := ⟨RX11, "shops", "(I)I"⟩
abbrev cX11_shop : ByteArray := prog_1_method_20_code
def yX11_shop : MethodName := ⟨RX11, "shop", "(II)I"⟩
abbrev cX11_themselves : ByteArray := prog_1_method_21_code
def yX11_themselves : MethodName := ⟨RX11, "themselves", "(III)I"⟩
abbrev cX11_oneMore : ByteArray := prog_1_method_22_code
def yX11_oneMore : MethodName := ⟨RX11, "oneMore", "(II)I"⟩
abbrev cX11_meet : ByteArray := prog_1_method_23_code
def yX11_meet : MethodName := ⟨RX11, "meet", "(III)I"⟩
abbrev cX11_fare : ByteArray := prog_1_method_24_code
def yX11_fare : MethodName := ⟨RX11, "fare", "(III)I"⟩
abbrev cX11_ends : ByteArray := prog_1_method_25_code
def yX11_ends : MethodName := ⟨RX11, "ends", "(II)I"⟩
abbrev cX11_falseFares : ByteArray := prog_1_method_26_code
def yX11_falseFares : MethodName := ⟨RX11, "falseFares", "(I)I"⟩
abbrev cX11_seed : ByteArray := prog_1_method_27_code
def yX11_seed : MethodName := ⟨RX11, "seed", "(I)Z"⟩
abbrev cX11_draw : ByteArray := prog_1_method_28_code
def yX11_draw : MethodName := ⟨RX11, "draw", "(III)I"⟩
abbrev cX11_keep : ByteArray := prog_1_method_29_code
def yX11_keep : MethodName := ⟨RX11, "keep", "()I"⟩
abbrev cX11_undo : ByteArray := prog_1_method_30_code
def yX11_undo : MethodName := ⟨RX11, "undo", "()Z"⟩
abbrev cX11_check : ByteArray := prog_1_method_31_code
def yX11_check : MethodName := ⟨RX11, "check", "(II)I"⟩
abbrev cX11_count : ByteArray := prog_1_method_32_code
def yX11_count : MethodName := ⟨RX11, "count", "(I)I"⟩
abbrev cX11_within : ByteArray := prog_1_method_33_code
def yX11_within : MethodName := ⟨RX11, "within", "(II)Z"⟩
abbrev cX11_isSetOf : ByteArray := prog_1_method_34_code
def yX11_isSetOf : MethodName := ⟨RX11, "isSetOf", "(II)Z"⟩
abbrev cX11_orNoWay : ByteArray := prog_1_method_35_code
def yX11_orNoWay : MethodName := ⟨RX11, "orNoWay", "(I)I"⟩
abbrev cX11_drawSet : ByteArray := prog_1_method_36_code
def yX11_drawSet : MethodName := ⟨RX11, "drawSet", "(I)I"⟩
abbrev cX11_firstWrong : ByteArray := prog_1_method_37_code
def yX11_firstWrong : MethodName := ⟨RX11, "firstWrong", "(II)I"⟩
abbrev cX11_meetingPlace : ByteArray := prog_1_method_38_code
def yX11_meetingPlace : MethodName := ⟨RX11, "meetingPlace", "(IIZ)I"⟩
abbrev cX11_meetingCost : ByteArray := prog_1_method_39_code
def yX11_meetingCost : MethodName := ⟨RX11, "meetingCost", "(IIIZ)I"⟩
def RX12 : String := "HillErrandsModel"
def TX12 : u_T := fun k => match k with
  | 0 => ("HillErrandsModel", "places", "I", false)
  | 1 => ("HillErrandsModel", "stairs", "I", false)
  | 2 => ("HillErrandsModel", "now", "I", false)
  | 3 => ("HillErrandsModel", "x0", "I", false)
  | 4 => ("HillErrandsModel", "heightOf", "[I", true)
  | 5 => ("HillErrandsModel", "stairA", "[I", true)
  | 6 => ("HillErrandsModel", "stairB", "[I", true)
  | 7 => ("HillErrandsModel", "sortOf", "[I", true)
  | 8 => ("HillErrandsModel", "tape", "[B", true)
  | 9 => ("HillErrandsModel", "taped", "I", false)
  | 10 => ("HillErrandsModel", "place0", "I", false)
  | 11 => ("HillErrandsModel", "length0", "I", false)
  | 12 => ("HillErrandsModel", "fault", "I", false)
  | 13 => ("HillErrandsModel", "open", "I", false)
  | 14 => ("HillErrandsModel", "codeMany", "I", false)
  | 15 => ("HillErrandsModel", "waiting", "I", false)
  | 16 => ("HillErrandsModel", "saidMany", "I", false)
  | 17 => ("HillErrandsModel", "number0", "I", false)
  | 18 => ("HillErrandsModel", "clauses", "I", false)
  | 19 => ("HillErrandsModel", "said", "[I", true)
  | 20 => ("HillErrandsModel", "waits", "[I", true)
  | 21 => ("HillErrandsModel", "saidLetter", "[I", true)
  | 22 => ("HillErrandsModel", "saidFrom", "[I", true)
  | 23 => ("HillErrandsModel", "saidHalf", "[I", true)
  | 24 => ("HillErrandsModel", "saidTo", "[I", true)
  | 25 => ("HillErrandsModel", "codes", "[I", true)
  | 26 => ("HillErrandsModel", "clauseOf", "[I", true)
  | 27 => ("HillErrandsModel", "codeFrom", "[I", true)
  | 28 => ("HillErrandsModel", "codeHalf", "[I", true)
  | 29 => ("HillErrandsModel", "codeTo", "[I", true)
  | 30 => ("HillErrandsModel", "stack", "[I", true)
  | 31 => ("HillErrandsModel", "facts", "[I", true)
  | 32 => ("HillErrandsModel", "wayOf", "[I", true)
  | 33 => ("HillErrandsModel", "stepOf", "[I", true)
  | 34 => ("HillErrandsModel", "isLaid", "[Z", true)
  | 35 => ("HillErrandsModel", "row", "[I", true)
  | 36 => ("HillErrandsModel", "rowLong", "I", false)
  | 37 => ("HillErrandsModel", "toldErrands", "I", false)
  | 38 => ("HillErrandsModel", "errandAt", "[I", true)
  | 39 => ("HillErrandsModel", "weightOf", "[I", true)
  | 40 => ("HillErrandsModel", "worthOf", "[I", true)
  | 41 => ("HillErrandsModel", "restOf", "[I", true)
  | 42 => ("HillErrandsModel", "people", "I", false)
  | 43 => ("HillErrandsModel", "toldThings", "I", false)
  | 44 => ("HillErrandsModel", "personFrom", "[I", true)
  | 45 => ("HillErrandsModel", "personTo", "[I", true)
  | 46 => ("HillErrandsModel", "carriesOf", "[I", true)
  | 47 => ("HillErrandsModel", "thingFrom", "[I", true)
  | 48 => ("HillErrandsModel", "thingTo", "[I", true)
  | 49 => ("HillErrandsModel", "thingWeight", "[I", true)
  | 50 => ("HillErrandsModel", "takesOf", "[I", true)
  | 51 => ("HillErrandsModel", "sentFrom", "[I", true)
  | 52 => ("HillErrandsModel", "wantOf", "[I", true)
  | 53 => ("HillErrandsModel", "dryPlace", "[I", true)
  | 54 => ("HillErrandsModel", "bringsTo", "[I", true)
  | 55 => ("HillErrandsModel", "dry0", "I", false)
  | 56 => ("HillErrandsModel", "lacks0", "I", false)
  | 57 => ("HillErrandsModel", "shopMany", "I", false)
  | 58 => ("HillErrandsModel", "shopAt", "[I", true)
  | 59 => ("HillErrandsModel", "fares", "I", false)
  | 60 => ("HillErrandsModel", "fareA", "[I", true)
  | 61 => ("HillErrandsModel", "fareB", "[I", true)
  | 62 => ("HillErrandsModel", "fareSteps", "[I", true)
  | 63 => ("HillErrandsModel", "above", "[I", true)
  | 64 => ("HillErrandsModel", "group", "[I", true)
  | 65 => ("HillErrandsModel", "isFalse", "[Z", true)
  | 66 => ("HillErrandsModel", "isKept", "Z", false)
  | 67 => ("HillErrandsModel", "keptStairs", "I", false)
  | _ => ("HillErrandsModel", "keptSeason", "I", false)
def tyX12 : Nat → FieldType := fun k => match k with
  | 0 => .int
  | 1 => .int
  | 2 => .int
  | 3 => .int
  | 4 => .array .int
  | 5 => .array .int
  | 6 => .array .int
  | 7 => .array .int
  | 8 => .array .byte
  | 9 => .int
  | 10 => .int
  | 11 => .int
  | 12 => .int
  | 13 => .int
  | 14 => .int
  | 15 => .int
  | 16 => .int
  | 17 => .int
  | 18 => .int
  | 19 => .array .int
  | 20 => .array .int
  | 21 => .array .int
  | 22 => .array .int
  | 23 => .array .int
  | 24 => .array .int
  | 25 => .array .int
  | 26 => .array .int
  | 27 => .array .int
  | 28 => .array .int
  | 29 => .array .int
  | 30 => .array .int
  | 31 => .array .int
  | 32 => .array .int
  | 33 => .array .int
  | 34 => .array .boolean
  | 35 => .array .int
  | 36 => .int
  | 37 => .int
  | 38 => .array .int
  | 39 => .array .int
  | 40 => .array .int
  | 41 => .array .int
  | 42 => .int
  | 43 => .int
  | 44 => .array .int
  | 45 => .array .int
  | 46 => .array .int
  | 47 => .array .int
  | 48 => .array .int
  | 49 => .array .int
  | 50 => .array .int
  | 51 => .array .int
  | 52 => .array .int
  | 53 => .array .int
  | 54 => .array .int
  | 55 => .int
  | 56 => .int
  | 57 => .int
  | 58 => .array .int
  | 59 => .int
  | 60 => .array .int
  | 61 => .array .int
  | 62 => .array .int
  | 63 => .array .int
  | 64 => .array .int
  | 65 => .array .boolean
  | 66 => .boolean
  | 67 => .int
  | _ => .int
theorem nmX12 : ∀ a, a < 69 → ∀ b, b < 69 → a ≠ b → (TX12 a).2.1 ≠ (TX12 b).2.1 := by decide +kernel
theorem tyX12_ok : ∀ k, k < 69 → parseFieldDescriptor (TX12 k).2.2.1 = some (tyX12 k) := by decide +kernel
abbrev cX12_init : ByteArray := prog_14_method_1_code
def yX12_init : MethodName := ⟨RX12, "<init>", "()V"⟩
abbrev cX12_in : ByteArray := prog_14_method_2_code
def yX12_in : MethodName := ⟨RX12, "in", "(III)Z"⟩
abbrev cX12_sum : ByteArray := prog_14_method_3_code
def yX12_sum : MethodName := ⟨RX12, "sum", "(II)I"⟩
abbrev cX12_least : ByteArray := prog_14_method_4_code
def yX12_least : MethodName := ⟨RX12, "least", "(II)I"⟩
abbrev cX12_bits : ByteArray := prog_14_method_5_code
def yX12_bits : MethodName := ⟨RX12, "bits", "(I)I"⟩
abbrev cX12_isPlace : ByteArray := prog_14_method_6_code
def yX12_isPlace : MethodName := ⟨RX12, "isPlace", "(I)Z"⟩
abbrev cX12_place : ByteArray := prog_14_method_7_code
def yX12_place : MethodName := ⟨RX12, "place", "(I)I"⟩
abbrev cX12_builds : ByteArray := prog_14_method_8_code
def yX12_builds : MethodName := ⟨RX12, "builds", "(III)V"⟩
abbrev cX12_stair : ByteArray := prog_14_method_9_code
def yX12_stair : MethodName := ⟨RX12, "stair", "(III)I"⟩
abbrev cX12_season : ByteArray := prog_14_method_10_code
def yX12_season : MethodName := ⟨RX12, "season", "(I)Z"⟩
abbrev cX12_types : ByteArray := prog_14_method_11_code
def yX12_types : MethodName := ⟨RX12, "types", "(I)V"⟩
abbrev cX12_feed : ByteArray := prog_14_method_12_code
def yX12_feed : MethodName := ⟨RX12, "feed", "(IIIII)I"⟩
abbrev cX12_here : ByteArray := prog_14_method_13_code
def yX12_here : MethodName := ⟨RX12, "here", "()I"⟩
abbrev cX12_isDigit : ByteArray := prog_14_method_14_code
def yX12_isDigit : MethodName := ⟨RX12, "isDigit", "()Z"⟩
abbrev cX12_wrongAt : ByteArray := prog_14_method_15_code
def yX12_wrongAt : MethodName := ⟨RX12, "wrongAt", "(II)Z"⟩
abbrev cX12_takes : ByteArray := prog_14_method_16_code
def yX12_takes : MethodName := ⟨RX12, "takes", "(I)Z"⟩
abbrev cX12_readsNumber : ByteArray := prog_14_method_17_code
def yX12_readsNumber : MethodName := ⟨RX12, "readsNumber", "()Z"⟩
abbrev cX12_notes : ByteArray := prog_14_method_18_code
def yX12_notes : MethodName := ⟨RX12, "notes", "(II)V"⟩
abbrev cX12_opens : ByteArray := prog_14_method_19_code
def yX12_opens : MethodName := ⟨RX12, "opens", "(I)Z"⟩
abbrev cX12_top : ByteArray := prog_14_method_20_code
def yX12_top : MethodName := ⟨RX12, "top", "()I"⟩
abbrev cX12_factOf : ByteArray := prog_14_method_21_code
def yX12_factOf : MethodName := ⟨RX12, "factOf", "(I)I"⟩
abbrev cX12_sumSign : ByteArray := prog_14_method_22_code
def yX12_sumSign : MethodName := ⟨RX12, "sumSign", "(I)I"⟩
abbrev cX12_closesSums : ByteArray := prog_14_method_23_code
def yX12_closesSums : MethodName := ⟨RX12, "closesSums", "(Z)V"⟩
abbrev cX12_readsFactor : ByteArray := prog_14_method_24_code
def yX12_readsFactor : MethodName := ⟨RX12, "readsFactor", "()Z"⟩
abbrev cX12_hasOpenSum : ByteArray := prog_14_method_25_code
def yX12_hasOpenSum : MethodName := ⟨RX12, "hasOpenSum", "(I)Z"⟩
abbrev cX12_readsSum : ByteArray := prog_14_method_26_code
def yX12_readsSum : MethodName := ⟨RX12, "readsSum", "()Z"⟩
abbrev cX12_endsPiece : ByteArray := prog_14_method_27_code
def yX12_endsPiece : MethodName := ⟨RX12, "endsPiece", "()V"⟩
abbrev cX12_lands : ByteArray := prog_14_method_28_code
def yX12_lands : MethodName := ⟨RX12, "lands", "(Z)V"⟩
abbrev cX12_jumps : ByteArray := prog_14_method_29_code
def yX12_jumps : MethodName := ⟨RX12, "jumps", "(I)V"⟩
abbrev cX12_readsCompared : ByteArray := prog_14_method_30_code
def yX12_readsCompared : MethodName := ⟨RX12, "readsCompared", "()Z"⟩
abbrev cX12_readsCondition : ByteArray := prog_14_method_31_code
def yX12_readsCondition : MethodName := ⟨RX12, "readsCondition", "()Z"⟩
abbrev cX12_readsClause : ByteArray := prog_14_method_32_code
def yX12_readsClause : MethodName := ⟨RX12, "readsClause", "()Z"⟩
abbrev cX12_law : ByteArray := prog_14_method_33_code
def yX12_law : MethodName := ⟨RX12, "law", "(I)I"⟩
abbrev cX12_reckon : ByteArray := prog_14_method_34_code
def yX12_reckon : MethodName := ⟨RX12, "reckon", "(III)I"⟩
abbrev cX12_comesTo : ByteArray := prog_14_method_35_code
def yX12_comesTo : MethodName := ⟨RX12, "comesTo", "(II)I"⟩
abbrev cX12_goes : ByteArray := prog_14_method_36_code
def yX12_goes : MethodName := ⟨RX12, "goes", "(IZI)I"⟩
abbrev cX12_isLoad : ByteArray := prog_14_method_37_code
def yX12_isLoad : MethodName := ⟨RX12, "isLoad", "(I)Z"⟩
abbrev cX12_going : ByteArray := prog_14_method_38_code
def yX12_going : MethodName := ⟨RX12, "going", "(IZI)I"⟩
abbrev cX12_begins : ByteArray := prog_14_method_39_code
def yX12_begins : MethodName := ⟨RX12, "begins", "()V"⟩
abbrev cX12_step : ByteArray := prog_14_method_40_code
def yX12_step : MethodName := ⟨RX12, "step", "(IIII)V"⟩
abbrev cX12_lays : ByteArray := prog_14_method_41_code
def yX12_lays : MethodName := ⟨RX12, "lays", "(I)V"⟩
abbrev cX12_wayAt : ByteArray := prog_14_method_42_code
def yX12_wayAt : MethodName := ⟨RX12, "wayAt", "(III)I"⟩
abbrev cX12_costOf : ByteArray := prog_14_method_43_code
def yX12_costOf : MethodName := ⟨RX12, "costOf", "(III)I"⟩
abbrev cX12_nextOn : ByteArray := prog_14_method_44_code
def yX12_nextOn : MethodName := ⟨RX12, "nextOn", "(III)I"⟩
abbrev cX12_laysRow : ByteArray := prog_14_method_45_code
def yX12_laysRow : MethodName := ⟨RX12, "laysRow", "(III)V"⟩
abbrev cX12_way : ByteArray := prog_14_method_46_code
def yX12_way : MethodName := ⟨RX12, "way", "(IIII)I"⟩
abbrev cX12_errand : ByteArray := prog_14_method_47_code
def yX12_errand : MethodName := ⟨RX12, "errand", "(IIII)Z"⟩
abbrev cX12_loadOf : ByteArray := prog_14_method_48_code
def yX12_loadOf : MethodName := ⟨RX12, "loadOf", "(I)I"⟩
abbrev cX12_round : ByteArray := prog_14_method_49_code
def yX12_round : MethodName := ⟨RX12, "round", "(II)I"⟩
abbrev cX12_placeOf : ByteArray := prog_14_method_50_code
def yX12_placeOf : MethodName := ⟨RX12, "placeOf", "(II)I"⟩
abbrev cX12_restBy : ByteArray := prog_14_method_51_code
def yX12_restBy : MethodName := ⟨RX12, "restBy", "(IIIII)I"⟩
abbrev cX12_laysRest : ByteArray := prog_14_method_52_code
def yX12_laysRest : MethodName := ⟨RX12, "laysRest", "(II)V"⟩
abbrev cX12_roundOf : ByteArray := prog_14_method_53_code
def yX12_roundOf : MethodName := ⟨RX12, "roundOf", "(II)I"⟩
abbrev cX12_separate : ByteArray := prog_14_method_54_code
def yX12_separate : MethodName := ⟨RX12, "separate", "(II)I"⟩
abbrev cX12_areErrands : ByteArray := prog_14_method_55_code
def yX12_areErrands : MethodName := ⟨RX12, "areErrands", "(I)Z"⟩
abbrev cX12_best : ByteArray := prog_14_method_56_code
def yX12_best : MethodName := ⟨RX12, "best", "(III)I"⟩
abbrev cX12_worthAll : ByteArray := prog_14_method_57_code
def yX12_worthAll : MethodName := ⟨RX12, "worthAll", "(I)I"⟩
abbrev cX12_day : ByteArray := prog_14_method_58_code
def yX12_day : MethodName := ⟨RX12, "day", "(III)I"⟩
abbrev cX12_isPerson : ByteArray := prog_14_method_59_code
def yX12_isPerson : MethodName := ⟨RX12, "isPerson", "(I)Z"⟩
abbrev cX12_isThing : ByteArray := prog_14_method_60_code
def yX12_isThing : MethodName := ⟨RX12, "isThing", "(I)Z"⟩
abbrev cX12_person : ByteArray := prog_14_method_61_code
def yX12_person : MethodName := ⟨RX12, "person", "(III)I"⟩
abbrev cX12_thing : ByteArray := prog_14_method_62_code
def yX12_thing : MethodName := ⟨RX12, "thing", "(IIII)Z"⟩
abbrev cX12_takesBy : ByteArray := prog_14_method_63_code
def yX12_takesBy : MethodName := ⟨RX12, "takesBy", "(II)I"⟩
abbrev cX12_brought : ByteArray := prog_14_method_64_code
def yX12_brought : MethodName := ⟨RX12, "brought", "(II)I"⟩
abbrev cX12_sentBy : ByteArray := prog_14_method_65_code
def yX12_sentBy : MethodName := ⟨RX12, "sentBy", "(IIII)I"⟩
abbrev cX12_laysSent : ByteArray := prog_14_method_66_code
def yX12_laysSent : MethodName := ⟨RX12, "laysSent", "(I)V"⟩
abbrev cX12_bringer : ByteArray := prog_14_method_67_code
def yX12_bringer : MethodName := ⟨RX12, "bringer", "(II)I"⟩
abbrev cX12_sent : ByteArray := prog_14_method_68_code
def yX12_sent : MethodName := ⟨RX12, "sent", "(II)I"⟩
abbrev cX12_wants : ByteArray := prog_14_method_69_code
def yX12_wants : MethodName := ⟨RX12, "wants", "(II)Z"⟩
abbrev cX12_laysBrings : ByteArray := prog_14_method_70_code
def yX12_laysBrings : MethodName := ⟨RX12, "laysBrings", "(I)V"⟩
abbrev cX12_carriedBy : ByteArray := prog_14_method_71_code
def yX12_carriedBy : MethodName := ⟨RX12, "carriedBy", "(I)I"⟩
abbrev cX12_laysDry : ByteArray := prog_14_method_72_code
def yX12_laysDry : MethodName := ⟨RX12, "laysDry", "()V"⟩
abbrev cX12_water : ByteArray := prog_14_method_73_code
def yX12_water : MethodName := ⟨RX12, "water", "(II)I"⟩
abbrev cX12_bothWays : ByteArray := prog_14_method_74_code
def yX12_bothWays : MethodName := ⟨RX12, "bothWays", "(II)I"⟩
abbrev cX12_shopsCost : ByteArray := prog_14_method_75_code
def yX12_shopsCost : MethodName := ⟨RX12, "shopsCost", "(I)I"⟩
abbrev cX12_shops : ByteArray := prog_14_method_76_code
def yX12_shops : MethodName := ⟨RX12, "shops", "(I)I"⟩
abbrev cX12_shop : ByteArray := prog_14_method_77_code
def yX12_shop : MethodName := ⟨RX12, "shop", "(II)I"⟩
abbrev cX12_shopFor : ByteArray := prog_14_method_78_code
def yX12_shopFor : MethodName := ⟨RX12, "shopFor", "(I)I"⟩
abbrev cX12_comeTo : ByteArray := prog_14_method_79_code
def yX12_comeTo : MethodName := ⟨RX12, "comeTo", "(I)I"⟩
abbrev cX12_moves : ByteArray := prog_14_method_80_code
def yX12_moves : MethodName := ⟨RX12, "moves", "(I)Z"⟩
abbrev cX12_themselves : ByteArray := prog_14_method_81_code
def yX12_themselves : MethodName := ⟨RX12, "themselves", "(III)I"⟩
abbrev cX12_costsAll : ByteArray := prog_14_method_82_code
def yX12_costsAll : MethodName := ⟨RX12, "costsAll", "()I"⟩
abbrev cX12_oneMore : ByteArray := prog_14_method_83_code
def yX12_oneMore : MethodName := ⟨RX12, "oneMore", "(II)I"⟩
abbrev cX12_meetBy : ByteArray := prog_14_method_84_code
def yX12_meetBy : MethodName := ⟨RX12, "meetBy", "(IIIZ)I"⟩
abbrev cX12_meet : ByteArray := prog_14_method_85_code
def yX12_meet : MethodName := ⟨RX12, "meet", "(III)I"⟩
abbrev cX12_fare : ByteArray := prog_14_method_86_code
def yX12_fare : MethodName := ⟨RX12, "fare", "(III)I"⟩
abbrev cX12_joins : ByteArray := prog_14_method_87_code
def yX12_joins : MethodName := ⟨RX12, "joins", "(I)V"⟩
abbrev cX12_laysFares : ByteArray := prog_14_method_88_code
def yX12_laysFares : MethodName := ⟨RX12, "laysFares", "()V"⟩
abbrev cX12_ends : ByteArray := prog_14_method_89_code
def yX12_ends : MethodName := ⟨RX12, "ends", "(II)I"⟩
abbrev cX12_falseFares : ByteArray := prog_14_method_90_code
def yX12_falseFares : MethodName := ⟨RX12, "falseFares", "(I)I"⟩
abbrev cX12_seed : ByteArray := prog_14_method_91_code
def yX12_seed : MethodName := ⟨RX12, "seed", "(I)Z"⟩
abbrev cX12_draw : ByteArray := prog_14_method_92_code
def yX12_draw : MethodName := ⟨RX12, "draw", "(III)I"⟩
abbrev cX12_keep : ByteArray := prog_14_method_93_code
def yX12_keep : MethodName := ⟨RX12, "keep", "()I"⟩
abbrev cX12_undo : ByteArray := prog_14_method_94_code
def yX12_undo : MethodName := ⟨RX12, "undo", "()Z"⟩
abbrev cX12_tapeNumber : ByteArray := prog_14_method_95_code
def yX12_tapeNumber : MethodName := ⟨RX12, "tapeNumber", "(I)I"⟩
abbrev cX12_check : ByteArray := prog_14_method_96_code
def yX12_check : MethodName := ⟨RX12, "check", "(II)I"⟩
abbrev cX12_count : ByteArray := prog_14_method_97_code
def yX12_count : MethodName := ⟨RX12, "count", "(I)I"⟩
def RJx145de : String := "java/io/Serializable"
def TJx145de : u_T := fun k => match k with
  | _ => ("", "", "", false)
def tyJx145de : Nat → FieldType := fun k => match k with
  | _ => .int
theorem nmJx145de : ∀ a, a < 0 → ∀ b, b < 0 → a ≠ b → (TJx145de a).2.1 ≠ (TJx145de b).2.1 := by decide +kernel
theorem tyJx145de_ok : ∀ k, k < 0 → parseFieldDescriptor (TJx145de k).2.2.1 = some (tyJx145de k) := by decide +kernel
def RJx9f9b0 : String := "java/lang/CharSequence"
def TJx9f9b0 : u_T := fun k => match k with
  | _ => ("", "", "", false)
def tyJx9f9b0 : Nat → FieldType := fun k => match k with
  | _ => .int
theorem nmJx9f9b0 : ∀ a, a < 0 → ∀ b, b < 0 → a ≠ b → (TJx9f9b0 a).2.1 ≠ (TJx9f9b0 b).2.1 := by decide +kernel
theorem tyJx9f9b0_ok : ∀ k, k < 0 → parseFieldDescriptor (TJx9f9b0 k).2.2.1 = some (tyJx9f9b0 k) := by decide +kernel
def RJ11 : String := "java/lang/Character"
def TJ11 : u_T := fun k => match k with
  | _ => ("", "", "", false)
def tyJ11 : Nat → FieldType := fun k => match k with
  | _ => .int
theorem nmJ11 : ∀ a, a < 0 → ∀ b, b < 0 → a ≠ b → (TJ11 a).2.1 ≠ (TJ11 b).2.1 := by decide +kernel
theorem tyJ11_ok : ∀ k, k < 0 → parseFieldDescriptor (TJ11 k).2.2.1 = some (tyJ11 k) := by decide +kernel
abbrev cJ11_isValidCodePoint_9a6ad : ByteArray := prog_15_method_11_code
def yJ11_isValidCodePoint_9a6ad : MethodName := ⟨RJ11, "isValidCodePoint", "(I)Z"⟩
abbrev cJ11_highSurrogate_5068e : ByteArray := prog_15_method_28_code
def yJ11_highSurrogate_5068e : MethodName := ⟨RJ11, "highSurrogate", "(I)C"⟩
abbrev cJ11_lowSurrogate_5068e : ByteArray := prog_15_method_29_code
def yJ11_lowSurrogate_5068e : MethodName := ⟨RJ11, "lowSurrogate", "(I)C"⟩
def RJxb160c : String := "java/lang/Comparable"
def TJxb160c : u_T := fun k => match k with
  | _ => ("", "", "", false)
def tyJxb160c : Nat → FieldType := fun k => match k with
  | _ => .int
theorem nmJxb160c : ∀ a, a < 0 → ∀ b, b < 0 → a ≠ b → (TJxb160c a).2.1 ≠ (TJxb160c b).2.1 := by decide +kernel
theorem tyJxb160c_ok : ∀ k, k < 0 → parseFieldDescriptor (TJxb160c k).2.2.1 = some (tyJxb160c k) := by decide +kernel
def RJ6 : String := "java/lang/Integer"
def TJ6 : u_T := fun k => match k with
  | _ => ("", "", "", false)
def tyJ6 : Nat → FieldType := fun k => match k with
  | _ => .int
theorem nmJ6 : ∀ a, a < 0 → ∀ b, b < 0 → a ≠ b → (TJ6 a).2.1 ≠ (TJ6 b).2.1 := by decide +kernel
theorem tyJ6_ok : ∀ k, k < 0 → parseFieldDescriptor (TJ6 k).2.2.1 = some (tyJ6 k) := by decide +kernel
abbrev cJ6_bitCount_0f7a4 : ByteArray := prog_16_method_49_code
def yJ6_bitCount_0f7a4 : MethodName := ⟨RJ6, "bitCount", "(I)I"⟩
def RJ9 : String := "java/lang/Math"
def TJ9 : u_T := fun k => match k with
  | _ => ("", "", "", false)
def tyJ9 : Nat → FieldType := fun k => match k with
  | _ => .int
theorem nmJ9 : ∀ a, a < 0 → ∀ b, b < 0 → a ≠ b → (TJ9 a).2.1 ≠ (TJ9 b).2.1 := by decide +kernel
theorem tyJ9_ok : ∀ k, k < 0 → parseFieldDescriptor (TJ9 k).2.2.1 = some (tyJ9 k) := by decide +kernel
abbrev cJ9_max_7cf53 : ByteArray := prog_17_method_65_code
def yJ9_max_7cf53 : MethodName := ⟨RJ9, "max", "(II)I"⟩
abbrev cJ9_min_7cf53 : ByteArray := prog_17_method_69_code
def yJ9_min_7cf53 : MethodName := ⟨RJ9, "min", "(II)I"⟩
def RJ0 : String := "java/lang/String"
def TJ0 : u_T := fun k => match k with
  | _ => ("", "", "", false)
def tyJ0 : Nat → FieldType := fun k => match k with
  | _ => .int
theorem nmJ0 : ∀ a, a < 0 → ∀ b, b < 0 → a ≠ b → (TJ0 a).2.1 ≠ (TJ0 b).2.1 := by decide +kernel
theorem tyJ0_ok : ∀ k, k < 0 → parseFieldDescriptor (TJ0 k).2.2.1 = some (tyJ0 k) := by decide +kernel
abbrev cJ0_length_8abf5 : ByteArray := prog_18_method_54_code
def yJ0_length_8abf5 : MethodName := ⟨RJ0, "length", "()I"⟩
abbrev cJ0_indexOf_0f7a4 : ByteArray := prog_18_method_79_code
def yJ0_indexOf_0f7a4 : MethodName := ⟨RJ0, "indexOf", "(I)I"⟩
abbrev cJ0_indexOf_7cf53 : ByteArray := prog_18_method_80_code
def yJ0_indexOf_7cf53 : MethodName := ⟨RJ0, "indexOf", "(II)I"⟩
abbrev cJ0_coder_7d493 : ByteArray := prog_18_method_152_code
def yJ0_coder_7d493 : MethodName := ⟨RJ0, "coder", "()B"⟩
abbrev cJ0_isLatin1_aae02 : ByteArray := prog_18_method_154_code
def yJ0_isLatin1_aae02 : MethodName := ⟨RJ0, "isLatin1", "()Z"⟩
abbrev cJ0_checkBoundsBeginEnd_23922 : ByteArray := prog_18_method_158_code
def yJ0_checkBoundsBeginEnd_23922 : MethodName := ⟨RJ0, "checkBoundsBeginEnd", "(III)V"⟩
def RJ1 : String := "java/lang/StringLatin1"
def TJ1 : u_T := fun k => match k with
  | _ => ("", "", "", false)
def tyJ1 : Nat → FieldType := fun k => match k with
  | _ => .int
theorem nmJ1 : ∀ a, a < 0 → ∀ b, b < 0 → a ≠ b → (TJ1 a).2.1 ≠ (TJ1 b).2.1 := by decide +kernel
theorem tyJ1_ok : ∀ k, k < 0 → parseFieldDescriptor (TJ1 k).2.2.1 = some (tyJ1 k) := by decide +kernel
abbrev cJ1_canEncode_9a6ad : ByteArray := prog_19_method_4_code
def yJ1_canEncode_9a6ad : MethodName := ⟨RJ1, "canEncode", "(I)Z"⟩
abbrev cJ1_indexOf_4cfef : ByteArray := prog_19_method_22_code
def yJ1_indexOf_4cfef : MethodName := ⟨RJ1, "indexOf", "([BIII)I"⟩
abbrev cJ1_indexOfChar_4cfef : ByteArray := prog_19_method_23_code
def yJ1_indexOfChar_4cfef : MethodName := ⟨RJ1, "indexOfChar", "([BIII)I"⟩
def RJ2 : String := "java/lang/StringUTF16"
def TJ2 : u_T := fun k => match k with
  | _ => ("", "", "", false)
def tyJ2 : Nat → FieldType := fun k => match k with
  | _ => .int
theorem nmJ2 : ∀ a, a < 0 → ∀ b, b < 0 → a ≠ b → (TJ2 a).2.1 ≠ (TJ2 b).2.1 := by decide +kernel
theorem tyJ2_ok : ∀ k, k < 0 → parseFieldDescriptor (TJ2 k).2.2.1 = some (tyJ2 k) := by decide +kernel
abbrev cJ2_getChar_3b067 : ByteArray := prog_20_method_5_code
def yJ2_getChar_3b067 : MethodName := ⟨RJ2, "getChar", "([BI)C"⟩
abbrev cJ2_length_9d52b : ByteArray := prog_20_method_6_code
def yJ2_length_9d52b : MethodName := ⟨RJ2, "length", "([B)I"⟩
abbrev cJ2_indexOf_4cfef : ByteArray := prog_20_method_40_code
def yJ2_indexOf_4cfef : MethodName := ⟨RJ2, "indexOf", "([BIII)I"⟩
abbrev cJ2_indexOfChar_4cfef : ByteArray := prog_20_method_47_code
def yJ2_indexOfChar_4cfef : MethodName := ⟨RJ2, "indexOfChar", "([BIII)I"⟩
abbrev cJ2_indexOfCharUnsafe_4cfef : ByteArray := prog_20_method_48_code
def yJ2_indexOfCharUnsafe_4cfef : MethodName := ⟨RJ2, "indexOfCharUnsafe", "([BIII)I"⟩
abbrev cJ2_indexOfSupplementary_4cfef : ByteArray := prog_20_method_49_code
def yJ2_indexOfSupplementary_4cfef : MethodName := ⟨RJ2, "indexOfSupplementary", "([BIII)I"⟩
abbrev cJ2_checkBoundsBeginEnd_d044e : ByteArray := prog_20_method_93_code
def yJ2_checkBoundsBeginEnd_d044e : MethodName := ⟨RJ2, "checkBoundsBeginEnd", "(II[B)V"⟩
def RJxfd54e : String := "java/lang/constant/Constable"
def TJxfd54e : u_T := fun k => match k with
  | _ => ("", "", "", false)
def tyJxfd54e : Nat → FieldType := fun k => match k with
  | _ => .int
theorem nmJxfd54e : ∀ a, a < 0 → ∀ b, b < 0 → a ≠ b → (TJxfd54e a).2.1 ≠ (TJxfd54e b).2.1 := by decide +kernel
theorem tyJxfd54e_ok : ∀ k, k < 0 → parseFieldDescriptor (TJxfd54e k).2.2.1 = some (tyJxfd54e k) := by decide +kernel
def RJx3cf43 : String := "java/lang/constant/ConstantDesc"
def TJx3cf43 : u_T := fun k => match k with
  | _ => ("", "", "", false)
def tyJx3cf43 : Nat → FieldType := fun k => match k with
  | _ => .int
theorem nmJx3cf43 : ∀ a, a < 0 → ∀ b, b < 0 → a ≠ b → (TJx3cf43 a).2.1 ≠ (TJx3cf43 b).2.1 := by decide +kernel
theorem tyJx3cf43_ok : ∀ k, k < 0 → parseFieldDescriptor (TJx3cf43 k).2.2.1 = some (tyJx3cf43 k) := by decide +kernel
def RJ7 : String := "java/util/Arrays"
def TJ7 : u_T := fun k => match k with
  | _ => ("", "", "", false)
def tyJ7 : Nat → FieldType := fun k => match k with
  | _ => .int
theorem nmJ7 : ∀ a, a < 0 → ∀ b, b < 0 → a ≠ b → (TJ7 a).2.1 ≠ (TJ7 b).2.1 := by decide +kernel
theorem tyJ7_ok : ∀ k, k < 0 → parseFieldDescriptor (TJ7 k).2.2.1 = some (tyJ7 k) := by decide +kernel
abbrev cJ7_fill_53178 : ByteArray := prog_21_method_103_code
def yJ7_fill_53178 : MethodName := ⟨RJ7, "fill", "([II)V"⟩
def RJ3 : String := "jdk/internal/util/Preconditions"
def TJ3 : u_T := fun k => match k with
  | _ => ("", "", "", false)
def tyJ3 : Nat → FieldType := fun k => match k with
  | _ => .int
theorem nmJ3 : ∀ a, a < 0 → ∀ b, b < 0 → a ≠ b → (TJ3 a).2.1 ≠ (TJ3 b).2.1 := by decide +kernel
theorem tyJ3_ok : ∀ k, k < 0 → parseFieldDescriptor (TJ3 k).2.2.1 = some (tyJ3 k) := by decide +kernel
abbrev cJ3_checkFromToIndex_8c36e : ByteArray := prog_22_method_12_code
def yJ3_checkFromToIndex_8c36e : MethodName := ⟨RJ3, "checkFromToIndex", "(IIILjava/util/function/BiFunction;)I"⟩
def RL : String := "HillErrandsLaw"
abbrev cL_law : ByteArray := code
def yL_law : MethodName := ⟨RL, "law", "([I)Z"⟩
abbrev vwCl : List vw_C := [(RX0, TX0, 5), (RX1, TX1, 12), (RX2, TX2, 11), (RX3, TX3, 5), (RX4, TX4, 6), (RX5, TX5, 5), (RX6, TX6, 7), (RX7, TX7, 2), (RX8, TX8, 13), (RX9, TX9, 5), (RX10, TX10, 6), (RX11, TX11, 11), (RX12, TX12, 69)]
end
section
/-! THE SMALL MACHINE: a pure interpreter of bytecode over a heap of numbered cells. A part behind this one shows that what it computes the machine does. -/
/-- how many cells, how many slots were made, kinds, lengths, references -/
abbrev zS : Type := Nat × Nat × (Nat → Nat) × (Nat → Nat) × (Nat → Nat → Option Nat)
/-- and the numbers -/
abbrev zM : Type := zS × (Nat → Nat → Int32)
/-- the script: its length, its numbers -/
abbrev zX : Type := Nat × (Nat → Int32)
abbrev zCf : Type := Nat × List Value × List Value × zM
abbrev zF : Type := List Value → zM → Option (Value × zM)
def zn (M : zM) : Nat := M.1.1
def zsl (M : zM) : Nat := M.1.2.1
def zt (M : zM) (k : Nat) : Nat := M.1.2.2.1 k
def zl (M : zM) (k : Nat) : Nat := M.1.2.2.2.1 k
def zR (M : zM) (k j : Nat) : Option Nat := M.1.2.2.2.2 k j
def zI (M : zM) (k j : Nat) : Int32 := M.2 k j
def zwA (I : Nat → Nat → Int32) (k : Nat) (f : Nat → Int32) : Nat → Nat → Int32 := fun a => if a = k then f else I a
def zput (M : zM) (k j : Nat) (x : Int32) : zM := (M.1, zwA M.2 k (upd (M.2 k) j x))
def zputR (M : zM) (k j : Nat) (r : Option Nat) : zM := ((M.1.1, M.1.2.1, M.1.2.2.1, M.1.2.2.2.1, fun a => if a = k then va_up (M.1.2.2.2.2 k) j r else M.1.2.2.2.2 a), M.2)
def znew (M : zM) (t len : Nat) : zM := ((M.1.1 + 1, M.1.2.1 + len, va_up M.1.2.2.1 M.1.1 t, va_up M.1.2.2.2.1 M.1.1 len, fun a => if a = M.1.1 then (fun _ => none) else M.1.2.2.2.2 a), zwA M.2 M.1.1 (fun _ => 0))
def zb (i : Int32) (n : Nat) : Bool := decide (¬ (i < 0 ∨ n ≤ i.toNatClampNeg))
/-- a cell of a kind -/
def za (M : zM) (a t : Nat) : Bool := decide (zt M a = t)
def zpush (v : Value) (r : List Value) : List Value := match v with
  | .long _ => r
  | v => v :: r
/-- the letters that a law may have -/
def zSB : List Int32 := [117, 100, 107, 108, 119, 102, 103, 115, 104]
def zcN (c : Nat) : Nat := (vwCl.map (fun q => q.2.2)).getD c 0
def zat (t : ArrayType) : Nat := match t with
  | .int => 100
  | .boolean => 101
  | .byte => 102
  | _ => 199
def z1 {γ : Type} (st : List Value) (f : Int32 → List Value → Option γ) : Option γ := match st with
  | .int x :: r => f x r
  | _ => none
def z2 {γ : Type} (st : List Value) (f : Int32 → Int32 → List Value → Option γ) : Option γ := match st with
  | .int y :: .int x :: r => f x y r
  | _ => none
def zr1 {γ : Type} (st : List Value) (f : Nat → List Value → Option γ) : Option γ := match st with
  | .ref a :: r => f a r
  | _ => none
def zir {γ : Type} (st : List Value) (f : Nat → Int32 → List Value → Option γ) : Option γ := match st with
  | .int i :: .ref a :: r => f a i r
  | _ => none
def ziir {γ : Type} (st : List Value) (f : Nat → Int32 → Int32 → List Value → Option γ) : Option γ := match st with
  | .int x :: .int i :: .ref a :: r => f a i x r
  | _ => none
def zcI {γ : Type} (o : Option (Value × zM)) (f : Int32 → zM → Option γ) : Option γ := match o with
  | some (.int v, M') => f v M'
  | _ => none
def zcV {γ : Type} (o : Option (Value × zM)) (f : zM → Option γ) : Option γ := match o with
  | some (.long _, M') => f M'
  | _ => none
def zcR {γ : Type} (o : Option (Value × zM)) (f : Nat → zM → Option γ) : Option γ := match o with
  | some (.ref a, M') => f a M'
  | _ => none
/-- a call; rk: 0 answers nothing, 1 a number, else a reference -/
def zcall {γ : Type} (E : Nat → zF) (rk g : Nat) (args : List Value) (r : List Value) (M : zM) (f : List Value → zM → Option γ) : Option γ :=
  if (r.map fun v => v.category).sum ≤ 8 then (match rk with
    | 0 => zcV (E g args M) fun M' => f r M'
    | 1 => zcI (E g args M) fun v M' => f (.int v :: r) M'
    | _ => zcR (E g args M) fun a M' => f (.ref a :: r) M') else none
/-- one instruction; its operands are numbers of this machine: an instruction's place for a target, 100 class + field, 10000 method + 100 class + 10 kind of answer + count of arguments -/
def zexec (X : zX) (E : Nat → zF) {γ : Type} (i : Instr) (pc : Nat) (L st : List Value) (M : zM) (k : zCf → Option γ) (kr : Value × zM → Option γ) : Option γ :=
  match i with
  | .iconst v => k (pc + 1, L, .int (Int32.ofInt v) :: st, M)
  | .aconst_null => k (pc + 1, L, .null :: st, M)
  | .iload j => match L[j]? with
    | some (.int x) => k (pc + 1, L, .int x :: st, M)
    | _ => none
  | .aload j => match L[j]? with
    | some (.ref a) => k (pc + 1, L, .ref a :: st, M)
    | some .null => k (pc + 1, L, .null :: st, M)
    | _ => none
  | .istore j => z1 st fun x r => if j < L.length then k (pc + 1, L.set j (.int x), r, M) else none
  | .astore j => match st with
    | .ref a :: r => if j < L.length then k (pc + 1, L.set j (.ref a), r, M) else none
    | .null :: r => if j < L.length then k (pc + 1, L.set j .null, r, M) else none
    | _ => none
  | .iinc j n => match L[j]? with
    | some (.int x) => k (pc + 1, L.set j (.int (x + Int32.ofInt n)), st, M)
    | _ => none
  | .iadd => z2 st fun x y r => k (pc + 1, L, .int (x + y) :: r, M)
  | .isub => z2 st fun x y r => k (pc + 1, L, .int (x - y) :: r, M)
  | .imul => z2 st fun x y r => k (pc + 1, L, .int (x * y) :: r, M)
  | .idiv => z2 st fun x y r => if y = 0 then none else k (pc + 1, L, .int (x / y) :: r, M)
  | .irem => z2 st fun x y r => if y = 0 then none else k (pc + 1, L, .int (x - x / y * y) :: r, M)
  | .iand => z2 st fun x y r => k (pc + 1, L, .int (x &&& y) :: r, M)
  | .ior => z2 st fun x y r => k (pc + 1, L, .int (x ||| y) :: r, M)
  | .ixor => z2 st fun x y r => k (pc + 1, L, .int (x ^^^ y) :: r, M)
  | .ishl => z2 st fun x y r => k (pc + 1, L, .int (x <<< (y &&& 31)) :: r, M)
  | .ishr => z2 st fun x y r => k (pc + 1, L, .int (x >>> (y &&& 31)) :: r, M)
  | .iushr => z2 st fun x y r => k (pc + 1, L, .int ((x.toUInt32 >>> (y.toUInt32 &&& Int32.toUInt32 31)).toInt32) :: r, M)
  | .fadd => z2 st fun x y r => if (r.map fun v => v.category).sum ≤ 8 then k (pc + 1, L, .int (if x < y then y else x) :: r, M) else none
  | .fsub => z2 st fun x y r => if (r.map fun v => v.category).sum ≤ 8 then k (pc + 1, L, .int (if y < x then y else x) :: r, M) else none
  | .ineg => z1 st fun x r => k (pc + 1, L, .int (-x) :: r, M)
  | .i2b => z1 st fun x r => k (pc + 1, L, .int x.toInt8.toInt32 :: r, M)
  | .i2c => z1 st fun x r => k (pc + 1, L, .int ((x.toUInt32 % 65536).toInt32) :: r, M)
  | .dup => match st with
    | v :: r => if v.category = 1 then k (pc + 1, L, v :: v :: r, M) else none
    | _ => none
  | .dup2 => match st with
    | v :: w :: r => if v.category = 1 then (if w.category = 1 then k (pc + 1, L, v :: w :: v :: w :: r, M) else none) else none
    | _ => none
  | .pop => zr1 st fun _ r => if (r.map fun v => v.category).sum ≤ 8 then k (pc + 1, L, r, M) else none
  | .goto t => k (t.toNat, L, st, M)
  | .ifCond .eq t => z1 st fun x r => if x = 0 then k (t.toNat, L, r, M) else k (pc + 1, L, r, M)
  | .ifCond .ne t => z1 st fun x r => if ¬ x = 0 then k (t.toNat, L, r, M) else k (pc + 1, L, r, M)
  | .ifCond .lt t => z1 st fun x r => if x < 0 then k (t.toNat, L, r, M) else k (pc + 1, L, r, M)
  | .ifCond .ge t => z1 st fun x r => if 0 ≤ x then k (t.toNat, L, r, M) else k (pc + 1, L, r, M)
  | .ifCond .gt t => z1 st fun x r => if 0 < x then k (t.toNat, L, r, M) else k (pc + 1, L, r, M)
  | .ifCond .le t => z1 st fun x r => if x ≤ 0 then k (t.toNat, L, r, M) else k (pc + 1, L, r, M)
  | .if_icmp .eq t => z2 st fun x y r => if x = y then k (t.toNat, L, r, M) else k (pc + 1, L, r, M)
  | .if_icmp .ne t => z2 st fun x y r => if ¬ x = y then k (t.toNat, L, r, M) else k (pc + 1, L, r, M)
  | .if_icmp .lt t => z2 st fun x y r => if x < y then k (t.toNat, L, r, M) else k (pc + 1, L, r, M)
  | .if_icmp .ge t => z2 st fun x y r => if y ≤ x then k (t.toNat, L, r, M) else k (pc + 1, L, r, M)
  | .if_icmp .gt t => z2 st fun x y r => if y < x then k (t.toNat, L, r, M) else k (pc + 1, L, r, M)
  | .if_icmp .le t => z2 st fun x y r => if x ≤ y then k (t.toNat, L, r, M) else k (pc + 1, L, r, M)
  | .ifnull t => match st with
    | .ref _ :: r => k (pc + 1, L, r, M)
    | .null :: r => k (t.toNat, L, r, M)
    | _ => none
  | .ifnonnull t => match st with
    | .ref _ :: r => k (t.toNat, L, r, M)
    | .null :: r => k (pc + 1, L, r, M)
    | _ => none
  | .tableswitch d lo hi o => z1 st fun x r => if x.toInt < lo ∨ hi < x.toInt then k (d.toNat, L, r, M) else (match o[(x.toInt - lo).toNat]? with
    | some t => k (t.toNat, L, r, M)
    | none => none)
  | .lookupswitch d ps => z1 st fun x r => k ((Op.lookupswitch.offset ps.toList d x.toInt).toNat, L, r, M)
  | .getfield q => zr1 st fun a r => if za M a (q / 100) then k (pc + 1, L, .int (zI M a (q % 100)) :: r, M) else none
  | .getstatic q => zr1 st fun a r => if za M a (q / 100) then k (pc + 1, L, va_rf (zR M a (q % 100)) :: r, M) else none
  | .putfield q => match st with
    | .int x :: .ref a :: r => if za M a (q / 100) then k (pc + 1, L, r, zput M a (q % 100) x) else none
    | _ => none
  | .checkcast q => match st with
    | .int x :: .ref a :: r => if za M a (q / 100) then (if x = 0 ∨ x = 1 then k (pc + 1, L, r, zput M a (q % 100) x) else none) else none
    | _ => none
  | .putstatic q => match st with
    | .ref b :: .ref a :: r => if za M a (q / 100) then k (pc + 1, L, r, zputR M a (q % 100) (some b)) else none
    | _ => none
  | .iaload => zir st fun a i r => if a = 1000000 then (if zb i X.1 then k (pc + 1, L, .int (X.2 i.toNatClampNeg) :: r, M) else none) else
      if za M a 100 then (if zb i (zl M a) then k (pc + 1, L, .int (zI M a i.toNatClampNeg) :: r, M) else none) else none
  | .baload => zir st fun a i r => if a = 1000002 then (if zb i 9 then k (pc + 1, L, .int (zSB.getD i.toNatClampNeg 0) :: r, M) else none) else
      if za M a 101 then (if zb i (zl M a) then k (pc + 1, L, .int (zI M a i.toNatClampNeg) :: r, M) else none) else
      if za M a 102 then (if zb i (zl M a) then k (pc + 1, L, .int (zI M a i.toNatClampNeg) :: r, M) else none) else none
  | .aaload => zir st fun a i r => if za M a 103 then (if zb i (zl M a) then k (pc + 1, L, va_rf (zR M a i.toNatClampNeg) :: r, M) else none) else none
  | .iastore => ziir st fun a i x r => if za M a 100 then (if zb i (zl M a) then k (pc + 1, L, r, zput M a i.toNatClampNeg x) else none) else none
  | .bastore => ziir st fun a i x r => if za M a 101 then (if zb i (zl M a) then (if x = 0 ∨ x = 1 then k (pc + 1, L, r, zput M a i.toNatClampNeg x) else none) else none) else
      if za M a 102 then (if zb i (zl M a) then k (pc + 1, L, r, zput M a i.toNatClampNeg x.toInt8.toInt32) else none) else none
  | .aastore => match st with
    | .ref v :: .int i :: .ref a :: r => if za M a 103 then (if zb i (zl M a) then (if za M v 100 then k (pc + 1, L, r, zputR M a i.toNatClampNeg (some v)) else none) else none) else none
    | _ => none
  | .arraylength => zr1 st fun a r => if a = 1000000 then (if 0 < X.1 then k (pc + 1, L, .int (Int32.ofNat X.1) :: r, M) else none) else
      if a = 1000002 then k (pc + 1, L, .int 9 :: r, M) else
      if za M a 100 then k (pc + 1, L, .int (Int32.ofNat (zl M a)) :: r, M) else none
  | .newarray t => z1 st fun x r => if ¬ x < 0 then (if x.toNatClampNeg ≤ 100000 then (if zn M < 1000000 then k (pc + 1, L, .ref (zn M) :: r, znew M (zat t) x.toNatClampNeg) else none) else none) else none
  | .anewarray _ => z1 st fun x r => if ¬ x < 0 then (if x.toNatClampNeg ≤ 100000 then (if zn M < 1000000 then k (pc + 1, L, .ref (zn M) :: r, znew M 103 x.toNatClampNeg) else none) else none) else none
  | .new c => if zn M < 1000000 then k (pc + 1, L, .ref (zn M) :: st, znew M c (zcN c)) else none
  | .invokestatic q => if q % 10 ≤ st.length then zcall E (q / 10 % 10) (q / 10000) (st.take (q % 10)).reverse (st.drop (q % 10)) M fun r M' => k (pc + 1, L, r, M') else none
  | .invokevirtual q => zr1 (st.drop (q % 10)) fun a r => if (if q / 100 % 100 = 99 then decide (a = 1000001) else za M a (q / 100 % 100)) then zcall E (q / 10 % 10) (q / 10000) (.ref a :: (st.take (q % 10)).reverse) r M fun r M' => k (pc + 1, L, r, M') else none
  | .invokespecial q => zr1 (st.drop (q % 10)) fun a r => zcall E (q / 10 % 10) (q / 10000) (.ref a :: (st.take (q % 10)).reverse) r M fun r M' => k (pc + 1, L, r, M')
  | .ldc 0 => k (pc + 1, L, .ref 1000001 :: st, M)
  | .ldc 1 => zr1 st fun a r => if a = 1000001 then k (pc + 1, L, .ref 1000002 :: r, M) else none
  | .ldc 2 => zr1 st fun a r => if a = 1000001 then k (pc + 1, L, .int 0 :: r, M) else none
  | .ldc 3 => k (pc + 1, L, .int 1 :: st, M)
  | .ireturn => match st with
    | [.int v] => kr (.int v, M)
    | _ => none
  | .lreturn => match st with
    | [.int v] => if v = 0 ∨ v = 1 then kr (.int v, M) else none
    | _ => none
  | .areturn => match st with
    | [.ref a] => kr (.ref a, M)
    | _ => none
  | .return_ => match st with
    | [] => kr (.long 0, M)
    | _ => none
  | _ => none
def zstep (X : zX) (C : List Instr) (E : Nat → zF) {γ : Type} (x : zCf) (k : zCf → Option γ) (kr : Value × zM → Option γ) : Option γ :=
  match C[x.1]? with
  | some i => zexec X E i x.1 x.2.1 x.2.2.1 x.2.2.2 k kr
  | none => none
def zrunT (X : zX) (C : List Instr) (E : Nat → zF) : Nat → zCf → Option (Value × zM)
  | 0, _ => none
  | n + 1, x => zstep X C E x (zrunT X C E n) some
def zstart (nL : Nat) (args : List Value) (M : zM) : zCf := (0, args ++ List.replicate (nL - args.length) (.long 0), [], M)
/-- what a method answers, and the cells behind it -/
noncomputable def zden (X : zX) (C : List Instr) (E : Nat → zF) (nL : Nat) : zF := fun args M =>
  haveI : ∀ p : Prop, Decidable p := fun p => Classical.propDecidable p
  if h : (args.length ≤ nL ∧ ∀ v ∈ args, v.category = 1) ∧ ∃ r n, zrunT X C E n (zstart nL args M) = some r then some (Classical.choose h.2) else none
theorem zden_run {X : zX} {C : List Instr} {E : Nat → zF} {nL : Nat} {args : List Value} {M : zM} {r : Value × zM} (h : zden X C E nL args M = some r) : (args.length ≤ nL ∧ ∀ v ∈ args, v.category = 1) ∧ ∃ n, zrunT X C E n (zstart nL args M) = some r := by
  unfold zden at h
  split at h
  · rename_i hx
    cases h
    exact ⟨hx.1, Classical.choose_spec hx.2⟩
  · cases h
end
section
/-! WHAT TIES THE SMALL MACHINE'S CELLS TO THE HEAP -/
def zTb : List Cond := lw_tbl.filter goodWord
theorem zTb_in {w : Cond} (h : w ∈ lw_tbl) (g : goodWord w = true) : w ∈ zTb := List.mem_filter.mpr ⟨h, g⟩
theorem zTb_of {w : Cond} (h : w ∈ zTb) : w ∈ lw_tbl ∧ goodWord w = true := List.mem_filter.mp h
theorem zTb_good : GoodIn zTb zTb := fun w h => ⟨h, good_of_word (zTb_of h).2⟩
/-- the tables in their parts -/
def zch (c : Nat) : List Cond := match c with
  | 0 => k2_sels lw_privs
  | 1 => tables_1_1
  | 2 => tables_1_2
  | 3 => tables_1_3
  | 4 => tables_1_4
  | 5 => tables_1_5
  | 6 => tables_1_6
  | 7 => tables_1_7
  | 8 => tables_1_8
  | _ => []
theorem zch_in (c : Nat) {w : Cond} (h : w ∈ zch c) : w ∈ lw_tbl := by
  unfold zch at h
  unfold lw_tbl tables_1
  simp only [List.mem_append]
  split at h
  · exact Or.inl h
  · exact Or.inr (Or.inl h)
  · exact Or.inr (Or.inr (Or.inl h))
  · exact Or.inr (Or.inr (Or.inr (Or.inl h)))
  · exact Or.inr (Or.inr (Or.inr (Or.inr (Or.inl h))))
  · exact Or.inr (Or.inr (Or.inr (Or.inr (Or.inr (Or.inl h)))))
  · exact Or.inr (Or.inr (Or.inr (Or.inr (Or.inr (Or.inr (Or.inl h))))))
  · exact Or.inr (Or.inr (Or.inr (Or.inr (Or.inr (Or.inr (Or.inr (Or.inl h)))))))
  · exact Or.inr (Or.inr (Or.inr (Or.inr (Or.inr (Or.inr (Or.inr (Or.inr h)))))))
  · cases h
/-- the word at a place of the tables: 1000 part + place -/
def zw (i : Nat) (w : Cond) : Bool := decide ((zch (i / 1000))[i % 1000]? = some w) && goodWord w
theorem zw_in {i : Nat} {w : Cond} (h : zw i w = true) : w ∈ zTb := by
  simp only [zw, Bool.and_eq_true, decide_eq_true_eq] at h
  exact zTb_in (zch_in _ (List.mem_of_getElem? h.1)) h.2
def zad (h0 : Nat) (sp : Nat → Nat) (k : Nat) : Nat := if k < 1000000 then h0 + k else sp (k - 1000000)
def zav (h0 : Nat) (sp : Nat → Nat) (v : Value) : Value := match v with
  | .ref k => .ref (zad h0 sp k)
  | v => v
def zty : Nat → Nat → FieldType := fun c => match c with
  | 0 => tyX0
  | 1 => tyX1
  | 2 => tyX2
  | 3 => tyX3
  | 4 => tyX4
  | 5 => tyX5
  | 6 => tyX6
  | 7 => tyX7
  | 8 => tyX8
  | 9 => tyX9
  | 10 => tyX10
  | 11 => tyX11
  | 12 => tyX12
  | _ => fun _ => .int
def zFr (c j : Nat) : Bool := match zty c j with
  | .object _ => true
  | .array _ => true
  | _ => false
def zfv (h0 : Nat) (sp : Nat → Nat) (M : zM) (k c j : Nat) : Value := if zFr c j then va_rf ((zR M k j).map (zad h0 sp)) else .int (zI M k j)
def zrow (h0 : Nat) (sp : Nat → Nat) (M : zM) (k t : Nat) (j : Nat) : Value := if t = 103 then va_rf ((zR M k j).map (zad h0 sp)) else .int (zI M k j)
/-- the cell k is in the heap, at h0 + k -/
def zPk (D : va_G) (cy : Nat → ClassId) (h0 : Nat) (sp : Nat → Nat) (M : zM) (H : Heap) (k : Nat) : Prop :=
  (∀ q : vw_C, vwCl[zt M k]? = some q → t_OB (h0 + k) (D.1 (zt M k)) q.2.2 (D.2 (zt M k)) H (zfv h0 sp M k (zt M k))) ∧
  (100 ≤ zt M k → zt M k < 104 → H[h0 + k]? = some (arrV (cy (zt M k)) (zl M k) (zrow h0 sp M k (zt M k))))
def zP (D : va_G) (cy : Nat → ClassId) (h0 : Nat) (sp : Nat → Nat) (M : zM) (H : Heap) : Prop := zn M ≤ 1000000 ∧ (∀ k, zt M k < 104 → k < zn M) ∧ ∀ k, k < zn M → zPk D cy h0 sp M H k
/-- what stands at a method's start and stays: the classes, the script, the letters, the launch's statics -/
def zEnv (D : va_G) (cy : Nat → ClassId) (h0 : Nat) (sp : Nat → Nat) (X : zX) (s : State) : Prop :=
  va_K D vwCl [(cy 100, .int), (cy 101, .boolean), (cy 102, .byte), (cy 103, .array .int)] s ∧
  (∃ (kA kI : Class), s.vm.classes[cy 103]? = some kA ∧ kA.kind = .array (cy 100) (.array .int) ∧ s.vm.classes[cy 100]? = some kI) ∧
  va_X (sp 0) X.1 X.2 s s.heap ∧ sp 0 < h0 ∧
  vk_S 1 [9] [zSB] (fun _ => sp 1) (fun _ => sp 2) (fun q => h0 ≤ q) s s.heap ∧
  vk_R RX5 118 "udklwfgsh" (sp 1) s ∧ va_Z RJ0 "COMPACT_STRINGS" "Z" (.int 1) (fun q => h0 ≤ q) s s.heap ∧
  (Cond.arrayOver (.array .int)).before #[] s = true
theorem zAO_moved {u U : State} (hvm : u.vm.Alike U.vm) (h : (Cond.arrayOver (.array .int)).before #[] u = true) : (Cond.arrayOver (.array .int)).before #[] U = true := by
  obtain ⟨comp, c, k, h1, h2, h3, h4, h5⟩ := arrayOverA_spec h
  obtain ⟨k', hk', he⟩ := hvm.2.2 _ _ h3
  have hi1 := va_idx_bare U.vm comp
  first | rw [hvm.bare_eq] at hi1 | rw [← hvm.bare_eq] at hi1
  have hi2 := va_idx_bare u.vm comp
  have hi := hi1.symm.trans (hi2.trans h2)
  have hkind : k'.kind = .array comp (.array .int) := by rw [he]; exact h4
  have f1 : U.vm.findClass (FieldType.array .int).toString = some comp := by rw [hvm.findClass]; exact h1
  have f2 : U.vm.findClass ("[" ++ (FieldType.array .int).toString) = some c := by rw [hvm.findClass]; exact h5
  unfold Cond.before Cond.holds
  simp only [Cond.value]
  rw [f1, Option.bind_some]
  refine (congrArg (fun o : Option Nat => (o.bind (fun c => (U.vm.classes[c]?).map fun (k : Class) => match k.kind with | .array _ ty => decide (ty = FieldType.array .int) && decide (U.vm.findClass ("[" ++ (FieldType.array .int).toString) = some c) | _ => false) == some true)) hi).trans ?_
  simp [hk', hkind, f2]
theorem zEnv_to {D : va_G} {cy : Nat → ClassId} {h0 : Nat} {sp : Nat → Nat} {X : zX} {s U : State} {H : Heap} {locs : List Loc} (h : zEnv D cy h0 sp X s) (hS : va_S (fun q => h0 ≤ q) s.heap H locs) (hU : U.heap = H) (hW : s.WarmedH U.vm) : zEnv D cy h0 sp X U := by
  obtain ⟨h1, ⟨kA, kI, h2, h3, h4⟩, h5, h6, h7, h8, h9, h10⟩ := h
  subst hU
  refine ⟨va_K.moved hW.alike h1, ?_, ?_, h6, ?_, vk_R.warm hW h8, (va_Z.moved hW.alike h9).kept hS.2.1, zAO_moved hW.alike h10⟩
  · obtain ⟨k', hk', he⟩ := hW.alike.2.2 _ _ h2
    obtain ⟨k2, hk2, -⟩ := hW.alike.2.2 _ _ h4
    exact ⟨k', k2, hk', by rw [he]; exact h3, hk2⟩
  · have h5' := h5
    obtain ⟨scr, g1, -⟩ := h5'
    have hlt := (Array.getElem?_eq_some_iff.mp g1).1
    exact (h5.moved hW.alike).kept (hS.2.1 _ hlt (Nat.not_le.mpr h6))
  · exact (vk_S.moved hW.alike h7).kept hS.2.1
/-- one cell changes -/
theorem zP_at {D : va_G} {cy : Nat → ClassId} {h0 : Nat} {sp : Nat → Nat} {M M' : zM} {H H1 : Heap} {a : Nat} (h : zP D cy h0 sp M H) (hn : zn M' = zn M) (ht : ∀ k, zt M' k = zt M k) (hl : ∀ k, zl M' k = zl M k) (hI : ∀ k, k ≠ a → zI M' k = zI M k) (hR : ∀ k, k ≠ a → zR M' k = zR M k) (oq : ∀ q : Nat, q ≠ h0 + a → H1[q]? = H[q]?) (ha : zPk D cy h0 sp M' H1 a) : zP D cy h0 sp M' H1 := by
  obtain ⟨hm, hg, h⟩ := h
  refine ⟨by rw [hn]; exact hm, fun k hk => by rw [ht] at hk; rw [hn]; exact hg k hk, ?_⟩
  intro k hk
  by_cases hka : k = a
  · subst hka; exact ha
  · have h1 := h k (by rw [← hn]; exact hk)
    have e1 := oq (h0 + k) (by omega)
    have ef : zfv h0 sp M' k = zfv h0 sp M k := by funext c j; simp only [zfv, hI k hka, hR k hka]
    have er : zrow h0 sp M' k = zrow h0 sp M k := by funext c j; simp only [zrow, hI k hka, hR k hka]
    refine ⟨?_, ?_⟩
    · rw [ht, ef]
      exact fun q hq => (h1.1 q hq).kept e1
    · rw [ht, hl, er, e1]
      exact h1.2
theorem zput_n (M : zM) (k j : Nat) (x : Int32) : zn (zput M k j x) = zn M := rfl
theorem zput_sl (M : zM) (k j : Nat) (x : Int32) : zsl (zput M k j x) = zsl M := rfl
theorem zput_t (M : zM) (k j : Nat) (x : Int32) : ∀ a, zt (zput M k j x) a = zt M a := fun _ => rfl
theorem zput_l (M : zM) (k j : Nat) (x : Int32) : ∀ a, zl (zput M k j x) a = zl M a := fun _ => rfl
theorem zput_R (M : zM) (k j : Nat) (x : Int32) : ∀ a, zR (zput M k j x) a = zR M a := fun _ => rfl
theorem zput_I (M : zM) (k j : Nat) (x : Int32) {a : Nat} (h : a ≠ k) : zI (zput M k j x) a = zI M a := by
  funext i; simp [zput, zI, zwA, h]
theorem zput_Is (M : zM) (k j : Nat) (x : Int32) : zI (zput M k j x) k = upd (zI M k) j x := by
  funext i; simp [zput, zI, zwA, upd]
theorem zputR_n (M : zM) (k j : Nat) (r : Option Nat) : zn (zputR M k j r) = zn M := rfl
theorem zputR_t (M : zM) (k j : Nat) (r : Option Nat) : ∀ a, zt (zputR M k j r) a = zt M a := fun _ => rfl
theorem zputR_l (M : zM) (k j : Nat) (r : Option Nat) : ∀ a, zl (zputR M k j r) a = zl M a := fun _ => rfl
theorem zputR_I (M : zM) (k j : Nat) (r : Option Nat) : ∀ a, zI (zputR M k j r) a = zI M a := fun _ => rfl
theorem zputR_R (M : zM) (k j : Nat) (r : Option Nat) {a : Nat} (h : a ≠ k) : zR (zputR M k j r) a = zR M a := by
  funext i; simp [zputR, zR, h]
theorem zputR_Rs (M : zM) (k j : Nat) (r : Option Nat) : zR (zputR M k j r) k = va_up (zR M k) j r := by
  funext i; simp [zputR, zR]; rfl
/-- a cell is made -/
theorem zP_new {D : va_G} {cy : Nat → ClassId} {h0 : Nat} {sp : Nat → Nat} {M : zM} {H H1 : Heap} {t len : Nat} (hm : zn M < 1000000) (h : zP D cy h0 sp M H) (o1 : ∀ q : Nat, q < h0 + zn M → H1[q]? = H[q]?) (ha : zPk D cy h0 sp (znew M t len) H1 (zn M)) : zP D cy h0 sp (znew M t len) H1 := by
  obtain ⟨-, hg, h⟩ := h
  refine ⟨hm, fun k hk => ?_, ?_⟩
  · have e9 : zn (znew M t len) = zn M + 1 := rfl
    rw [e9]
    by_cases hka : k = zn M
    · omega
    · have et : zt (znew M t len) k = zt M k := by show va_up _ _ _ _ = _; exact va_up_ne _ _ hka
      rw [et] at hk
      exact Nat.lt_succ_of_lt (hg k hk)
  intro k hk
  by_cases hka : k = zn M
  · subst hka; exact ha
  · have hk' : k < zn M := by
      have : zn (znew M t len) = zn M + 1 := rfl
      omega
    have h1 := h k hk'
    have e1 := o1 (h0 + k) (by omega)
    have et : zt (znew M t len) k = zt M k := by show va_up _ _ _ _ = _; exact va_up_ne _ _ hka
    have el : zl (znew M t len) k = zl M k := by show va_up _ _ _ _ = _; exact va_up_ne _ _ hka
    have eI : zI (znew M t len) k = zI M k := by funext j; show zwA _ _ _ _ _ = _; have : ¬ k = M.1.1 := hka; simp [zwA, this, zI]
    have eR : zR (znew M t len) k = zR M k := by funext j; have : ¬ k = M.1.1 := hka; simp [this, zR, znew]
    have ef : zfv h0 sp (znew M t len) k = zfv h0 sp M k := by funext c j; simp only [zfv, eI, eR]
    have er : zrow h0 sp (znew M t len) k = zrow h0 sp M k := by funext c j; simp only [zrow, eI, eR]
    refine ⟨?_, ?_⟩
    · rw [et, ef]
      exact fun q hq => (h1.1 q hq).kept e1
    · rw [et, el, er, e1]
      exact h1.2
theorem znew_t (M : zM) (t len : Nat) : zt (znew M t len) (zn M) = t := by show va_up _ _ _ _ = _; exact va_up_self _ _ _
theorem znew_l (M : zM) (t len : Nat) : zl (znew M t len) (zn M) = len := by show va_up _ _ _ _ = _; exact va_up_self _ _ _
theorem znew_I (M : zM) (t len : Nat) : zI (znew M t len) (zn M) = fun _ => 0 := by funext j; show zwA _ _ _ _ _ = _; simp [zwA, zn]
theorem znew_R (M : zM) (t len : Nat) : zR (znew M t len) (zn M) = fun _ => none := by funext j; simp [zn, zR, znew]
/-- the locals -/
def zLoc (h0 : Nat) (sp : Nat → Nat) (ls : Array Slot) (nL : Nat) (L : List Value) : Prop :=
  ls.size = nL ∧ lv_wf ls ∧ L.length = nL ∧ ∀ (i : Nat) (v : Value), L[i]? = some v → v.category = 1 → ls[i]? = some (.val (zav h0 sp v))
theorem zav_cat (h0 : Nat) (sp : Nat → Nat) (v : Value) : (zav h0 sp v).category = v.category := by cases v <;> rfl
theorem zcat_map (h0 : Nat) (sp : Nat → Nat) (r : List Value) : ((r.map (zav h0 sp)).map fun v => v.category) = r.map fun v => v.category := by
  rw [List.map_map]
  exact List.map_congr_left fun v _ => zav_cat h0 sp v
theorem zLoc_store {h0 : Nat} {sp : Nat → Nat} {ls : Array Slot} {nL : Nat} {L : List Value} (h : zLoc h0 sp ls nL L) {i : Nat} (hi : i < nL) {v : Value} (hc : v.category = 1) : ∃ ls', storeLocals ls i (zav h0 sp v) = some ls' ∧ zLoc h0 sp ls' nL (L.set i v) := by
  obtain ⟨z1, z2, z3, z4⟩ := h
  have hc' : (zav h0 sp v).category = 1 := by rw [zav_cat]; exact hc
  obtain ⟨ls', e, g1, g2, g3⟩ := lv_store1 (l := []) (⟨z1, z2, fun q hq => by cases hq⟩ : lv_has ls nL []) hi hc'
  refine ⟨ls', e, g1, g2, by rw [List.length_set]; exact z3, ?_⟩
  intro j w hj hw
  by_cases hji : j = i
  · subst hji
    rw [List.getElem?_set_self (by omega)] at hj
    cases hj
    exact g3 (j, zav h0 sp v) List.mem_cons_self
  · rw [List.getElem?_set_ne (Ne.symm hji)] at hj
    have h1 := z4 j w hj hw
    obtain ⟨ls2, e2, f1, f2, f3⟩ := lv_store1 (l := [(j, zav h0 sp w)]) (⟨z1, z2, fun q hq => by rw [List.mem_singleton.mp hq]; exact h1⟩ : lv_has ls nL _) hi hc'
    rw [e] at e2
    cases e2
    refine f3 (j, zav h0 sp w) (List.mem_cons_of_mem _ (List.mem_filter.mpr ⟨List.mem_singleton.mpr rfl, ?_⟩))
    have : (zav h0 sp w).category = 1 := by rw [zav_cat]; exact hw
    simp [hji, this]
theorem zlg_sl : ∀ (vs : List Value), (∀ v ∈ vs, v.category = 1) → (lg_sl vs).length = vs.length
  | [], _ => rfl
  | v :: vs, h => by
    have h1 := zlg_sl vs (fun w hw => h w (List.mem_cons_of_mem _ hw))
    have h2 := h v List.mem_cons_self
    simp [lg_sl, h2] at h1 ⊢
    omega
theorem zlv_args : ∀ (vs : List Value) (i j : Nat) (v : Value), (∀ v ∈ vs, v.category = 1) → vs[j]? = some v → (i + j, v) ∈ lv_args i vs
  | [], _, _, _, _, h => by simp at h
  | w :: vs, i, 0, v, _, h => by
    simp at h
    subst h
    simp [lv_args]
  | w :: vs, i, j + 1, v, hc, h => by
    have h2 := hc w List.mem_cons_self
    have h3 := zlv_args vs (i + 1) j v (fun w hw => hc w (List.mem_cons_of_mem _ hw)) (by simpa using h)
    simp only [lv_args, h2]
    refine List.mem_cons_of_mem _ ?_
    rw [show i + (j + 1) = i + 1 + j by omega]
    simpa using h3
theorem zLoc_entry {h0 : Nat} {sp : Nat → Nat} (args : List Value) {nL : Nat} (hl : args.length ≤ nL) (hc : ∀ v ∈ args, v.category = 1) :
    zLoc h0 sp ((lg_sl (args.map (zav h0 sp)) ++ List.replicate (nL - (lg_sl (args.map (zav h0 sp))).length) Slot.unset).toArray) nL (args ++ List.replicate (nL - args.length) (.long 0)) := by
  have hc' : ∀ v ∈ args.map (zav h0 sp), v.category = 1 := fun v hv => by
    obtain ⟨w, hw, rfl⟩ := List.mem_map.mp hv
    rw [zav_cat]; exact hc w hw
  have hlen := zlg_sl _ hc'
  obtain ⟨g1, g2, g3⟩ := lv_entry (args.map (zav h0 sp)) (n := nL) (by rw [hlen, List.length_map]; exact hl)
  refine ⟨g1, g2, by rw [List.length_append, List.length_replicate]; omega, ?_⟩
  intro i v hv hcv
  by_cases hi : i < args.length
  · rw [List.getElem?_append_left hi] at hv
    have h1 := zlv_args (args.map (zav h0 sp)) 0 i (zav h0 sp v) hc' (by rw [List.getElem?_map, hv]; rfl)
    rw [Nat.zero_add] at h1
    exact g3 _ h1
  · rw [List.getElem?_append_right (by omega), List.getElem?_replicate] at hv
    split at hv
    · cases hv; cases hcv
    · cases hv
/-- a method: its name, bytes, locals, answer, arguments, and 0 virtual, 1 static, 2 a constructor -/
abbrev zMd : Type := MethodName × ByteArray × Nat × Option FieldType × Nat × Nat
def zMok (md : zMd) : Prop :=
  Cond.code md.1 md.2.1 md.2.2.1 md.2.2.2.1 ∈ zTb ∧ Cond.initialized md.1.cls ∈ zTb ∧ plainName md.1.cls = true ∧ md.1.cls ≠ "java/lang/invoke/MethodHandle" ∧ md.1.cls ≠ "java/lang/invoke/VarHandle" ∧
  (parseMethodDescriptor md.1.desc).map (fun d => d.parameters.length) = some md.2.2.2.2.1 ∧ md.2.2.1 ≤ 40 ∧
  (md.2.2.2.2.2 = 0 → Cond.instanceMethod md.1 ∈ zTb ∧ Cond.selects md.1.cls md.1 md.1 ∈ zTb) ∧
  (md.2.2.2.2.2 = 1 → Cond.static md.1 ∈ zTb) ∧
  (md.2.2.2.2.2 = 2 → Cond.instanceMethod md.1 ∈ zTb ∧ md.1.name = "<init>" ∧ md.2.2.2.1 = none)
def zro (h0 : Nat) (sp : Nat → Nat) (r : Value) : Option Value := match r with
  | .long _ => none
  | v => some (zav h0 sp v)
def zrm (d : Nat) (M M' : zM) : Room := { frames := d, cells := zn M' - zn M, slots := zsl M' - zsl M, locals := 60 * d }
def zPc (D : va_G) (cy : Nat → ClassId) (h0 : Nat) (sp : Nat → Nat) (X : zX) (args : List Value) (M : zM) : Array Value → State → Prop := fun v U =>
  v = (args.map (zav h0 sp)).toArray ∧ U.heap.size = h0 + zn M ∧ zP D cy h0 sp M U.heap ∧ zEnv D cy h0 sp X U
def zQc (D : va_G) (cy : Nat → ClassId) (h0 : Nat) (sp : Nat → Nat) (r : Value) (M' : zM) : Array Value → State → Outcome → State → Prop := fun _ st o t =>
  o = .returned (zro h0 sp r) ∧ t.heap.size = h0 + zn M' ∧ zP D cy h0 sp M' t.heap ∧ va_F (fun q => h0 ≤ q) st t
/-- what a method computes on the small machine, it does -/
def zSnd (d : Nat) (md : zMd) (F : zF) : Prop := zMok md ∧ ∀ (args : List Value) (M : zM) (r : Value) (M' : zM), F args M = some (r, M') →
  zn M ≤ zn M' ∧ zsl M ≤ zsl M' ∧
  ∀ (l : Launch) (D : va_G) (cy : Nat → ClassId) (h0 : Nat) (sp : Nat → Nat) (X : zX),
    Met l md.1 (.code md.1 md.2.1 md.2.2.1 md.2.2.2.1 :: zTb) (zrm d M M') (zPc D cy h0 sp X args M) (zQc D cy h0 sp r M') (zn M' - zn M) (zsl M' - zsl M) (fun q => h0 ≤ q)
theorem zEnv_calling {D : va_G} {cy : Nat → ClassId} {h0 : Nat} {sp : Nat → Nat} {X : zX} {U : State} (g : JFrame) (mk : MethodId) (a : Array Value) (h : zEnv D cy h0 sp X U) : zEnv D cy h0 sp X (U.calling g mk a) := by
  obtain ⟨h1, h2, h3, h4, h5, h6, h7, h8⟩ := h
  exact ⟨va_K.moved (u := U) (U := U.calling g mk a) (Vm.Alike.refl U.vm) h1, h2, va_X.moved (u := U) (U := U.calling g mk a) (Vm.Alike.refl U.vm) h3, h4, vk_S.moved (u := U) (U := U.calling g mk a) (Vm.Alike.refl U.vm) h5, vk_R.same (u := U) rfl h6, va_Z.moved (u := U) (U := U.calling g mk a) (Vm.Alike.refl U.vm) h7, zAO_moved (u := U) (U := U.calling g mk a) (Vm.Alike.refl U.vm) h8⟩
theorem zPc_blind {D : va_G} {cy : Nat → ClassId} {h0 : Nat} {sp : Nat → Nat} {X : zX} {args : List Value} {M : zM} : FrameBlind (zPc D cy h0 sp X args M) := fun a U g mk h => ⟨h.1, h.2.1, h.2.2.1, zEnv_calling g mk a h.2.2.2⟩
end
section
/-! WHAT THE SMALL MACHINE COMPUTES, THE MACHINE DOES -/
/-- an instruction: its place in the bytes, its length, the machine's, the small machine's, two numbers for the check -/
abbrev zE : Type := Nat × Nat × Instr × Instr × Nat × Nat
def zpc (cd : List zE) (o : Nat) : Nat := match cd[o]? with
  | some e => e.1
  | none => match cd[o - 1]? with
    | some e => e.1 + e.2.1
    | none => 0
def zchain : List zE → Bool
  | e :: e' :: r => decide (e'.1 = e.1 + e.2.1) && zchain (e' :: r)
  | _ => true
theorem zpc_at {cd : List zE} {o : Nat} {e : zE} (h : cd[o]? = some e) : zpc cd o = e.1 := by simp [zpc, h]
theorem zchain_two : ∀ {cd : List zE}, zchain cd = true → ∀ {o : Nat} {e e' : zE}, cd[o]? = some e → cd[o + 1]? = some e' → e'.1 = e.1 + e.2.1
  | [], _, _, _, _, h, _ => by simp at h
  | [a], _, o, _, _, _, h2 => by simp at h2
  | a :: b :: r, hc, 0, e, e', h, h2 => by
    simp only [zchain, Bool.and_eq_true, decide_eq_true_eq] at hc
    simp at h h2
    subst h; subst h2
    exact hc.1
  | a :: b :: r, hc, o + 1, e, e', h, h2 => by
    simp only [zchain, Bool.and_eq_true, decide_eq_true_eq] at hc
    exact zchain_two hc.2 (o := o) (by simpa using h) (by simpa using h2)
theorem zpc_next {cd : List zE} (hc : zchain cd = true) {o : Nat} {e : zE} (h : cd[o]? = some e) : zpc cd (o + 1) = e.1 + e.2.1 := by
  cases h2 : cd[o + 1]? with
  | some e' => rw [zpc_at h2]; exact zchain_two hc h h2
  | none => simp [zpc, h2, h]
def zall2 {α β : Type} (p : α → β → Bool) : List α → List β → Bool
  | [], [] => true
  | a :: r, b :: s => p a b && zall2 p r s
  | _, _ => false
theorem zall2_at {α β : Type} {p : α → β → Bool} : ∀ {as : List α} {bs : List β}, zall2 p as bs = true → ∀ {i : Nat} {b : β}, bs[i]? = some b → ∃ a, as[i]? = some a ∧ p a b = true
  | [], [], _, _, _, h => by simp at h
  | [], _ :: _, h, _, _, _ => by simp [zall2] at h
  | _ :: _, [], h, _, _, _ => by simp [zall2] at h
  | a :: r, b :: s, h, 0, c, hi => by
    simp only [zall2, Bool.and_eq_true] at h
    simp at hi
    subst hi
    exact ⟨a, rfl, h.1⟩
  | a :: r, b :: s, h, i + 1, c, hi => by
    simp only [zall2, Bool.and_eq_true] at h
    obtain ⟨x, h1, h2⟩ := zall2_at h.2 (i := i) (by simpa using hi)
    exact ⟨x, by simpa using h1, h2⟩
theorem zlook {cd : List zE} {pc : Nat} {d d' : Int} (hd : (pc : Int) + d = (zpc cd d'.toNat : Int)) (k : Int) : ∀ {ps qs : List (Int × Int)}, zall2 (fun a b => decide (a.1 = b.1 ∧ (pc : Int) + a.2 = (zpc cd b.2.toNat : Int))) ps qs = true → (pc : Int) + Op.lookupswitch.offset ps d k = (zpc cd (Op.lookupswitch.offset qs d' k).toNat : Int)
  | [], [], _ => by rw [Op.lookupswitch.offset_nil, Op.lookupswitch.offset_nil]; exact hd
  | [], _ :: _, h => by simp [zall2] at h
  | _ :: _, [], h => by simp [zall2] at h
  | (a, o) :: r, (b, o') :: s, h => by
    simp only [zall2, Bool.and_eq_true, decide_eq_true_eq] at h
    obtain ⟨⟨h1, h2⟩, h3⟩ := h
    subst h1
    rw [Op.lookupswitch.offset_cons, Op.lookupswitch.offset_cons]
    by_cases hk : a = k
    · rw [if_pos hk, if_pos hk]; exact h2
    · rw [if_neg hk, if_neg hk]; exact zlook hd k h3
def z4 (re : Instr) (f : Fin 4 → Instr) (j : Nat) : Bool := decide (re = f 0 ∧ j = 0) || decide (re = f 1 ∧ j = 1) || decide (re = f 2 ∧ j = 2) || decide (re = f 3 ∧ j = 3)
theorem z4_ex {re : Instr} {f : Fin 4 → Instr} {j : Nat} (h : z4 re f j = true) : ∃ k : Fin 4, re = f k ∧ (k : Nat) = j := by
  simp only [z4, Bool.or_eq_true, decide_eq_true_eq] at h
  rcases h with ((⟨h, rfl⟩ | ⟨h, rfl⟩) | ⟨h, rfl⟩) | ⟨h, rfl⟩
  · exact ⟨0, h, rfl⟩
  · exact ⟨1, h, rfl⟩
  · exact ⟨2, h, rfl⟩
  · exact ⟨3, h, rfl⟩
/-- the instruction of the small machine fits the machine's -/
def zck (own : String) (ini : Bool) (cd : List zE) (ret : Option FieldType) (md : Nat → zMd) (gs : List Nat) (e : zE) : Bool :=
  match e.2.2.2.1 with
  | .iconst v => decide (e.2.2.1 = .iconst v ∧ e.2.1 = 1) || decide (e.2.2.1 = .bipush v ∧ e.2.1 = 2 ∧ (Int8.ofInt v).toInt32 = Int32.ofInt v) || decide (e.2.2.1 = .sipush v ∧ e.2.1 = 3 ∧ (Int16.ofInt v).toInt32 = Int32.ofInt v) || (decide (e.2.2.1 = .ldc e.2.2.2.2.2 ∧ e.2.1 = 2) && zw e.2.2.2.2.1 (.constant own e.2.2.2.2.2 (Int32.ofInt v))) || (decide (e.2.2.1 = .ldc_w e.2.2.2.2.2 ∧ e.2.1 = 3) && zw e.2.2.2.2.1 (.constant own e.2.2.2.2.2 (Int32.ofInt v)))
  | .iload j => decide (e.2.2.1 = .iload j ∧ e.2.1 = 2) || (z4 e.2.2.1 .iload_n j && decide (e.2.1 = 1))
  | .aload j => decide (e.2.2.1 = .aload j ∧ e.2.1 = 2) || (z4 e.2.2.1 .aload_n j && decide (e.2.1 = 1))
  | .istore j => decide (e.2.2.1 = .istore j ∧ e.2.1 = 2) || (z4 e.2.2.1 .istore_n j && decide (e.2.1 = 1))
  | .astore j => decide (e.2.2.1 = .astore j ∧ e.2.1 = 2) || (z4 e.2.2.1 .astore_n j && decide (e.2.1 = 1))
  | .iinc j n => decide (e.2.2.1 = .iinc j n ∧ e.2.1 = 3)
  | .aconst_null => decide (e.2.2.1 = .aconst_null ∧ e.2.1 = 1)
  | .iadd => decide (e.2.2.1 = .iadd ∧ e.2.1 = 1)
  | .isub => decide (e.2.2.1 = .isub ∧ e.2.1 = 1)
  | .imul => decide (e.2.2.1 = .imul ∧ e.2.1 = 1)
  | .iand => decide (e.2.2.1 = .iand ∧ e.2.1 = 1)
  | .ior => decide (e.2.2.1 = .ior ∧ e.2.1 = 1)
  | .ixor => decide (e.2.2.1 = .ixor ∧ e.2.1 = 1)
  | .ishl => decide (e.2.2.1 = .ishl ∧ e.2.1 = 1)
  | .ishr => decide (e.2.2.1 = .ishr ∧ e.2.1 = 1)
  | .idiv => decide (e.2.2.1 = .idiv ∧ e.2.1 = 1)
  | .irem => decide (e.2.2.1 = .irem ∧ e.2.1 = 1)
  | .iushr => decide (e.2.2.1 = .iushr ∧ e.2.1 = 1)
  | .ineg => decide (e.2.2.1 = .ineg ∧ e.2.1 = 1)
  | .i2b => decide (e.2.2.1 = .i2b ∧ e.2.1 = 1)
  | .i2c => decide (e.2.2.1 = .i2c ∧ e.2.1 = 1)
  | .dup => decide (e.2.2.1 = .dup ∧ e.2.1 = 1)
  | .dup2 => decide (e.2.2.1 = .dup2 ∧ e.2.1 = 1)
  | .iaload => decide (e.2.2.1 = .iaload ∧ e.2.1 = 1)
  | .baload => decide (e.2.2.1 = .baload ∧ e.2.1 = 1)
  | .aaload => decide (e.2.2.1 = .aaload ∧ e.2.1 = 1)
  | .iastore => decide (e.2.2.1 = .iastore ∧ e.2.1 = 1)
  | .bastore => decide (e.2.2.1 = .bastore ∧ e.2.1 = 1)
  | .aastore => decide (e.2.2.1 = .aastore ∧ e.2.1 = 1)
  | .arraylength => decide (e.2.2.1 = .arraylength ∧ e.2.1 = 1)
  | .pop => decide (e.2.2.1 = .invokespecial e.2.2.2.2.2 ∧ e.2.1 = 3) && zw e.2.2.2.2.1 (.methodLink own e.2.2.2.2.2 Lib.objectInit) && decide (Cond.instanceMethod Lib.objectInit ∈ zTb) && decide (Cond.code Lib.objectInit ⟨#[0xb1]⟩ 1 none ∈ zTb)
  | .goto t => match e.2.2.1 with
    | .goto off => decide (e.2.1 = 3 ∧ (e.1 : Int) + off = (zpc cd t.toNat : Int))
    | _ => false
  | .ifCond c t => match e.2.2.1 with
    | .ifCond c' off => decide (c' = c ∧ e.2.1 = 3 ∧ (e.1 : Int) + off = (zpc cd t.toNat : Int))
    | _ => false
  | .if_icmp c t => match e.2.2.1 with
    | .if_icmp c' off => decide (c' = c ∧ e.2.1 = 3 ∧ (e.1 : Int) + off = (zpc cd t.toNat : Int))
    | _ => false
  | .ifnull t => match e.2.2.1 with
    | .ifnull off => decide (e.2.1 = 3 ∧ (e.1 : Int) + off = (zpc cd t.toNat : Int))
    | _ => false
  | .ifnonnull t => match e.2.2.1 with
    | .ifnonnull off => decide (e.2.1 = 3 ∧ (e.1 : Int) + off = (zpc cd t.toNat : Int))
    | _ => false
  | .tableswitch d lo hi o => match e.2.2.1 with
    | .tableswitch d' lo' hi' o' => decide (lo' = lo ∧ hi' = hi ∧ (e.1 : Int) + d' = (zpc cd d.toNat : Int)) && zall2 (fun a b => decide ((e.1 : Int) + a = (zpc cd b.toNat : Int))) o'.toList o.toList
    | _ => false
  | .lookupswitch d ps => match e.2.2.1 with
    | .lookupswitch d' ps' => decide ((e.1 : Int) + d' = (zpc cd d.toNat : Int)) && (ps'.toList.zip (ps'.toList.drop 1)).all (fun (a, next) => a.1 < next.1) && zall2 (fun a b => decide (a.1 = b.1 ∧ (e.1 : Int) + a.2 = (zpc cd b.2.toNat : Int))) ps'.toList ps.toList
    | _ => false
  | .getfield q => match vwCl[q / 100]? with
    | some (C, T, N) => decide (e.2.2.1 = .getfield e.2.2.2.2.2 ∧ e.2.1 = 3 ∧ q % 100 < N ∧ zFr (q / 100) (q % 100) = false ∧ (T (q % 100)).1 = C) && zw e.2.2.2.2.1 (.fieldLink own e.2.2.2.2.2 C (T (q % 100)).2.1 (T (q % 100)).2.2.1)
    | none => false
  | .getstatic q => match vwCl[q / 100]? with
    | some (C, T, N) => decide (e.2.2.1 = .getfield e.2.2.2.2.2 ∧ e.2.1 = 3 ∧ q % 100 < N ∧ zFr (q / 100) (q % 100) = true ∧ (T (q % 100)).1 = C) && zw e.2.2.2.2.1 (.fieldLink own e.2.2.2.2.2 C (T (q % 100)).2.1 (T (q % 100)).2.2.1)
    | none => false
  | .putfield q => match vwCl[q / 100]? with
    | some (C, T, N) => decide (e.2.2.1 = .putfield e.2.2.2.2.2 ∧ e.2.1 = 3 ∧ q % 100 < N ∧ zty (q / 100) (q % 100) = .int ∧ (T (q % 100)).1 = C) && (decide ((T (q % 100)).2.2.2 = false) || (ini && decide (C = own))) && zw e.2.2.2.2.1 (.fieldLink own e.2.2.2.2.2 C (T (q % 100)).2.1 (T (q % 100)).2.2.1)
    | none => false
  | .checkcast q => match vwCl[q / 100]? with
    | some (C, T, N) => decide (e.2.2.1 = .putfield e.2.2.2.2.2 ∧ e.2.1 = 3 ∧ q % 100 < N ∧ zty (q / 100) (q % 100) = .boolean ∧ (T (q % 100)).1 = C) && (decide ((T (q % 100)).2.2.2 = false) || (ini && decide (C = own))) && zw e.2.2.2.2.1 (.fieldLink own e.2.2.2.2.2 C (T (q % 100)).2.1 (T (q % 100)).2.2.1)
    | none => false
  | .putstatic q => match vwCl[q / 100]? with
    | some (C, T, N) => decide (e.2.2.1 = .putfield e.2.2.2.2.2 ∧ e.2.1 = 3 ∧ q % 100 < N ∧ zFr (q / 100) (q % 100) = true ∧ (T (q % 100)).1 = C) && (decide ((T (q % 100)).2.2.2 = false) || (ini && decide (C = own))) && zw e.2.2.2.2.1 (.fieldLink own e.2.2.2.2.2 C (T (q % 100)).2.1 (T (q % 100)).2.2.1)
    | none => false
  | .newarray t => decide (e.2.2.1 = .newarray t ∧ e.2.1 = 2 ∧ (t = .int ∨ t = .boolean ∨ t = .byte)) && zw e.2.2.2.2.1 (.arrayClass (newarray.typeOf t))
  | .anewarray _ => decide (e.2.2.1 = .anewarray e.2.2.2.2.2 ∧ e.2.1 = 3) && zw e.2.2.2.2.1 (.classLink own e.2.2.2.2.2 "[I")
  | .new c => match vwCl[c]? with
    | some (C, _, N) => decide (e.2.2.1 = .new e.2.2.2.2.2 ∧ e.2.1 = 3) && zw e.2.2.2.2.1 (.classLink own e.2.2.2.2.2 C) && decide (Cond.instantiable C N ∈ zTb) && decide (Cond.initialized C ∈ zTb)
    | none => false
  | .invokestatic q => decide (e.2.2.1 = .invokestatic e.2.2.2.2.2 ∧ e.2.1 = 3 ∧ q / 10000 ∈ gs ∧ (md (q / 10000)).2.2.2.2.1 = q % 10 ∧ (md (q / 10000)).2.2.2.2.2 = 1) && zw e.2.2.2.2.1 (.methodLink own e.2.2.2.2.2 (md (q / 10000)).1)
  | .invokevirtual q => decide (e.2.2.1 = .invokevirtual e.2.2.2.2.2 ∧ e.2.1 = 3 ∧ q / 10000 ∈ gs ∧ (md (q / 10000)).2.2.2.2.1 = q % 10 ∧ (md (q / 10000)).2.2.2.2.2 = 0) && zw e.2.2.2.2.1 (.methodLink own e.2.2.2.2.2 (md (q / 10000)).1) && (if q / 100 % 100 = 99 then decide ((md (q / 10000)).1.cls = "java/lang/String") else decide ((vwCl[q / 100 % 100]?).map (fun c => c.1) = some (md (q / 10000)).1.cls))
  | .invokespecial q => decide (e.2.2.1 = .invokespecial e.2.2.2.2.2 ∧ e.2.1 = 3 ∧ q / 10000 ∈ gs ∧ (md (q / 10000)).2.2.2.2.1 = q % 10 ∧ (md (q / 10000)).2.2.2.2.2 = 2) && zw e.2.2.2.2.1 (.methodLink own e.2.2.2.2.2 (md (q / 10000)).1)
  | .ldc 0 => decide (e.2.2.1 = .ldc 118 ∧ e.2.1 = 2 ∧ own = RX5)
  | .ldc 1 => decide (e.2.2.1 = .getfield e.2.2.2.2.2 ∧ e.2.1 = 3) && zw e.2.2.2.2.1 (.fieldLink own e.2.2.2.2.2 "java/lang/String" "value" "[B")
  | .ldc 2 => decide (e.2.2.1 = .getfield e.2.2.2.2.2 ∧ e.2.1 = 3) && zw e.2.2.2.2.1 (.fieldLink own e.2.2.2.2.2 "java/lang/String" "coder" "B")
  | .ldc 3 => decide (e.2.2.1 = .getstatic e.2.2.2.2.2 ∧ e.2.1 = 3) && zw e.2.2.2.2.1 (.fieldLink own e.2.2.2.2.2 RJ0 "COMPACT_STRINGS" "Z")
  | .ireturn => decide (e.2.2.1 = .ireturn ∧ e.2.1 = 1 ∧ ret = some .int)
  | .lreturn => decide (e.2.2.1 = .ireturn ∧ e.2.1 = 1 ∧ (ret = some .boolean ∨ ret = some .byte))
  | .areturn => decide (e.2.2.1 = .areturn ∧ e.2.1 = 1) && (match ret with
    | some (.object _) => true
    | _ => false)
  | .return_ => decide (e.2.2.1 = .return_ ∧ e.2.1 = 1 ∧ ret = none)
  | .nop => true
  | .fadd => decide (e.2.2.1 = .invokestatic e.2.2.2.2.2 ∧ e.2.1 = 3) && zw e.2.2.2.2.1 (.methodLink own e.2.2.2.2.2 Lib.Math.max.name)
  | .fsub => decide (e.2.2.1 = .invokestatic e.2.2.2.2.2 ∧ e.2.1 = 3) && zw e.2.2.2.2.1 (.methodLink own e.2.2.2.2.2 Lib.Math.min.name)
  | _ => false
theorem z1_some {γ : Type} {st : List Value} {f : Int32 → List Value → Option γ} {y : γ} (h : z1 st f = some y) : ∃ x r, st = .int x :: r ∧ f x r = some y := by
  unfold z1 at h
  split at h
  · exact ⟨_, _, rfl, h⟩
  · cases h
theorem z2_some {γ : Type} {st : List Value} {f : Int32 → Int32 → List Value → Option γ} {y : γ} (h : z2 st f = some y) : ∃ a b r, st = .int b :: .int a :: r ∧ f a b r = some y := by
  unfold z2 at h
  split at h
  · exact ⟨_, _, _, rfl, h⟩
  · cases h
theorem zr1_some {γ : Type} {st : List Value} {f : Nat → List Value → Option γ} {y : γ} (h : zr1 st f = some y) : ∃ a r, st = .ref a :: r ∧ f a r = some y := by
  unfold zr1 at h
  split at h
  · exact ⟨_, _, rfl, h⟩
  · cases h
theorem zir_some {γ : Type} {st : List Value} {f : Nat → Int32 → List Value → Option γ} {y : γ} (h : zir st f = some y) : ∃ a i r, st = .int i :: .ref a :: r ∧ f a i r = some y := by
  unfold zir at h
  split at h
  · exact ⟨_, _, _, rfl, h⟩
  · cases h
theorem ziir_some {γ : Type} {st : List Value} {f : Nat → Int32 → Int32 → List Value → Option γ} {y : γ} (h : ziir st f = some y) : ∃ a i x r, st = .int x :: .int i :: .ref a :: r ∧ f a i x r = some y := by
  unfold ziir at h
  split at h
  · exact ⟨_, _, _, _, rfl, h⟩
  · cases h
theorem zif_some {γ : Type} {c : Prop} [Decidable c] {a : Option γ} {y : γ} (h : (if c then a else none) = some y) : c ∧ a = some y := by
  by_cases hc : c
  · rw [if_pos hc] at h; exact ⟨hc, h⟩
  · rw [if_neg hc] at h; cases h
theorem za_of {M : zM} {a t : Nat} (h : za M a t = true) : zt M a = t := of_decide_eq_true h
theorem zb_of {i : Int32} {n : Nat} (h : zb i n = true) : vp_in i n := by
  show ¬ (i < 0 ∨ n ≤ i.toNatClampNeg)
  exact of_decide_eq_true h
theorem zcall_some {γ : Type} {E : Nat → zF} {rk g : Nat} {as r : List Value} {M : zM} {f : List Value → zM → Option γ} {y : γ} (h : zcall E rk g as r M f = some y) : (r.map fun v => v.category).sum ≤ 8 ∧ ∃ v M', E g as M = some (v, M') ∧ f (zpush v r) M' = some y := by
  unfold zcall at h
  obtain ⟨h1, h2⟩ := zif_some h
  refine ⟨h1, ?_⟩
  split at h2
  · unfold zcV at h2
    split at h2
    · rename_i he; exact ⟨_, _, he, h2⟩
    · cases h2
  · unfold zcI at h2
    split at h2
    · rename_i he; exact ⟨_, _, he, h2⟩
    · cases h2
  · unfold zcR at h2
    split at h2
    · rename_i he; exact ⟨_, _, he, h2⟩
    · cases h2
theorem zro_push (h0 : Nat) (sp : Nat → Nat) (v : Value) (r : List Value) : (zro h0 sp v).toList ++ r.map (zav h0 sp) = (zpush v r).map (zav h0 sp) := by
  cases v <;> rfl
end
section
/-! THE CLASSES' WORDS AND TYPES -/
theorem zwl {is : List Nat} {ws : List Cond} (h : zall2 zw is ws = true) : ∀ w ∈ ws, w ∈ zTb := fun w hw => by
  obtain ⟨i, hi⟩ := List.getElem?_of_mem hw
  obtain ⟨a, -, h2⟩ := zall2_at h hi
  exact zw_in h2
theorem zcw_0 : ∀ w ∈ u_ws RX0 TX0 5, w ∈ zTb := zwl (is := [2111, 2113, 2115, 2117, 2119]) (by decide +kernel)
theorem zcw_1 : ∀ w ∈ u_ws RX1 TX1 12, w ∈ zTb := zwl (is := [1175, 1177, 1179, 1181, 1183, 1185, 1187, 1189, 1191, 1193, 1195, 1197]) (by decide +kernel)
theorem zcw_2 : ∀ w ∈ u_ws RX2 TX2 11, w ∈ zTb := zwl (is := [1056, 1058, 1060, 1062, 1064, 1066, 1068, 1070, 1072, 1074, 1076]) (by decide +kernel)
theorem zcw_3 : ∀ w ∈ u_ws RX3 TX3 5, w ∈ zTb := zwl (is := [2062, 2064, 2066, 2068, 2070]) (by decide +kernel)
theorem zcw_4 : ∀ w ∈ u_ws RX4 TX4 6, w ∈ zTb := zwl (is := [2085, 2087, 2089, 2091, 2093, 2095]) (by decide +kernel)
theorem zcw_5 : ∀ w ∈ u_ws RX5 TX5 5, w ∈ zTb := zwl (is := [1226, 1228, 1230, 1232, 1234]) (by decide +kernel)
theorem zcw_6 : ∀ w ∈ u_ws RX6 TX6 7, w ∈ zTb := zwl (is := [2011, 2013, 2015, 2017, 2019, 2021, 2023]) (by decide +kernel)
theorem zcw_7 : ∀ w ∈ u_ws RX7 TX7 2, w ∈ zTb := zwl (is := [1208, 1210]) (by decide +kernel)
theorem zcw_8 : ∀ w ∈ u_ws RX8 TX8 13, w ∈ zTb := zwl (is := [1101, 1103, 1105, 1107, 1109, 1111, 1113, 1115, 1117, 1119, 1121, 1123, 1125]) (by decide +kernel)
theorem zcw_9 : ∀ w ∈ u_ws RX9 TX9 5, w ∈ zTb := zwl (is := [1141, 1143, 1145, 1147, 1149]) (by decide +kernel)
theorem zcw_10 : ∀ w ∈ u_ws RX10 TX10 6, w ∈ zTb := zwl (is := [2038, 2040, 2042, 2044, 2046, 2048]) (by decide +kernel)
theorem zcw_11 : ∀ w ∈ u_ws RX11 TX11 11, w ∈ zTb := zwl (is := [2133, 2135, 2137, 2139, 2141, 2143, 2145, 2147, 2149, 2151, 2153]) (by decide +kernel)
theorem zcw_12 : ∀ w ∈ u_ws RX12 TX12 69, w ∈ zTb := zwl (is := [6037, 6039, 6041, 6043, 6045, 6047, 6049, 6051, 6053, 6055, 6057, 6059, 6061, 6063, 6065, 6067, 6069, 6071, 6073, 6075, 6077, 6079, 6081, 6083, 6085, 6087, 6089, 6091, 6093, 6095, 6097, 6099, 6101, 6103, 6105, 6107, 6109, 6111, 6113, 6115, 6117, 6119, 6121, 6123, 6125, 6127, 6129, 6131, 6133, 6135, 6137, 6139, 6141, 6143, 6145, 6147, 6149, 6151, 6153, 6155, 6157, 6159, 6161, 6163, 6165, 6167, 6169, 6171, 6173]) (by decide +kernel)
theorem zcls_in : ∀ (c : Nat) (q : vw_C), vwCl[c]? = some q → ∀ w ∈ u_ws q.1 q.2.1 q.2.2, w ∈ zTb := by
  intro c q h
  match c, h with
  | 0, h => cases h; exact zcw_0
  | 1, h => cases h; exact zcw_1
  | 2, h => cases h; exact zcw_2
  | 3, h => cases h; exact zcw_3
  | 4, h => cases h; exact zcw_4
  | 5, h => cases h; exact zcw_5
  | 6, h => cases h; exact zcw_6
  | 7, h => cases h; exact zcw_7
  | 8, h => cases h; exact zcw_8
  | 9, h => cases h; exact zcw_9
  | 10, h => cases h; exact zcw_10
  | 11, h => cases h; exact zcw_11
  | 12, h => cases h; exact zcw_12
  | c + 13, h => simp [vwCl] at h
theorem zcls_ty : ∀ (c : Nat) (q : vw_C), vwCl[c]? = some q → ∀ k, k < q.2.2 → parseFieldDescriptor (q.2.1 k).2.2.1 = some (zty c k) := by
  intro c q h
  match c, h with
  | 0, h => cases h; exact tyX0_ok
  | 1, h => cases h; exact tyX1_ok
  | 2, h => cases h; exact tyX2_ok
  | 3, h => cases h; exact tyX3_ok
  | 4, h => cases h; exact tyX4_ok
  | 5, h => cases h; exact tyX5_ok
  | 6, h => cases h; exact tyX6_ok
  | 7, h => cases h; exact tyX7_ok
  | 8, h => cases h; exact tyX8_ok
  | 9, h => cases h; exact tyX9_ok
  | 10, h => cases h; exact tyX10_ok
  | 11, h => cases h; exact tyX11_ok
  | 12, h => cases h; exact tyX12_ok
  | c + 13, h => simp [vwCl] at h
theorem zcls_nm : ∀ (c : Nat) (q : vw_C), vwCl[c]? = some q → ∀ a, a < q.2.2 → ∀ b, b < q.2.2 → a ≠ b → (q.2.1 a).2.1 ≠ (q.2.1 b).2.1 := by
  intro c q h
  match c, h with
  | 0, h => cases h; exact nmX0
  | 1, h => cases h; exact nmX1
  | 2, h => cases h; exact nmX2
  | 3, h => cases h; exact nmX3
  | 4, h => cases h; exact nmX4
  | 5, h => cases h; exact nmX5
  | 6, h => cases h; exact nmX6
  | 7, h => cases h; exact nmX7
  | 8, h => cases h; exact nmX8
  | 9, h => cases h; exact nmX9
  | 10, h => cases h; exact nmX10
  | 11, h => cases h; exact nmX11
  | 12, h => cases h; exact nmX12
  | c + 13, h => simp [vwCl] at h
def zkind (t : FieldType) : Bool := match t with
  | .int => true
  | .boolean => true
  | .object _ => true
  | .array _ => true
  | _ => false
theorem zty_kind : ∀ (c : Nat) (q : vw_C), vwCl[c]? = some q → ∀ k, k < q.2.2 → zkind (zty c k) = true := by
  intro c q h
  match c, h with
  | 0, h => cases h; exact (by decide +kernel)
  | 1, h => cases h; exact (by decide +kernel)
  | 2, h => cases h; exact (by decide +kernel)
  | 3, h => cases h; exact (by decide +kernel)
  | 4, h => cases h; exact (by decide +kernel)
  | 5, h => cases h; exact (by decide +kernel)
  | 6, h => cases h; exact (by decide +kernel)
  | 7, h => cases h; exact (by decide +kernel)
  | 8, h => cases h; exact (by decide +kernel)
  | 9, h => cases h; exact (by decide +kernel)
  | 10, h => cases h; exact (by decide +kernel)
  | 11, h => cases h; exact (by decide +kernel)
  | 12, h => cases h; exact (by decide +kernel)
  | c + 13, h => simp [vwCl] at h
theorem zcN_of {c : Nat} {q : vw_C} (h : vwCl[c]? = some q) : zcN c = q.2.2 := by
  simp only [zcN, List.getD_eq_getElem?_getD, List.getElem?_map, h]; rfl
theorem zcls_lt {c : Nat} {q : vw_C} (h : vwCl[c]? = some q) : c < 13 := (List.getElem?_eq_some_iff.mp h).1
end
section
/-! ROWS OVER THE NUMBERED CELLS -/
theorem zGood {ws : List Cond} (h : ∀ w ∈ ws, w ∈ zTb) : GoodIn zTb ws := fun w hw => ⟨h w hw, good_of_word (zTb_of (h w hw)).2⟩
theorem zad_lt {h0 : Nat} {sp : Nat → Nat} {a : Nat} (h : a < 1000000) : zad h0 sp a = h0 + a := if_pos h
theorem zP_lt {D : va_G} {cy : Nat → ClassId} {h0 : Nat} {sp : Nat → Nat} {M : zM} {H : Heap} (h : zP D cy h0 sp M H) {a : Nat} (ha : a < zn M) : a < 1000000 := Nat.lt_of_lt_of_le ha h.1
section ZR
variable {p : Program} {l : Launch} {e : Env} {R : Room} {s : State} {m : MethodId} {args : Array Value} {below : List Frame} {meth : Method} {c : Code} {H : Heap} {locs : List Loc} {cells slots : Nat} {Q : State → Prop}
variable {cc : ByteArray} {pc : Nat} {ls : Array Slot} {rest : List Value} {D : va_G} {cy : Nat → ClassId} {h0 : Nat} {sp : Nat → Nat} {X : zX} {M : zM} {own : String}
theorem zr_istore (hexec : p.tables.exec = Jvm.exec) (hb : c.code = cc) {i nL : Nat} {L : List Value} {x : Int32} (hdg : decode cc pc = .ok (.istore i, 2)) (h : zLoc h0 sp ls nL L) (hn : i < nL)
    (kk : ∀ ls' : Array Slot, zLoc h0 sp ls' nL (L.set i (.int x)) → W p l e R s m args below meth c H locs cells slots Q (F0 m (pc + 2) ls' rest)) : W p l e R s m args below meth c H locs cells slots Q (F0 m pc ls (.int x :: rest)) := by
  obtain ⟨ls', e', h'⟩ := zLoc_store (v := .int x) h hn rfl
  have e' : storeLocals ls i (.int x) = some ls' := e'
  intro T hT X
  obtain ⟨t, a, b⟩ := kk ls' h' T hT X
  refine ⟨t, ?_, b⟩
  jvm_step X.here [X.here.top, hexec, hb, hdg, e']
  exact a
theorem zr_istore_n (hexec : p.tables.exec = Jvm.exec) (hb : c.code = cc) {k : Fin 4} {i nL : Nat} {L : List Value} {x : Int32} (hdg : decode cc pc = .ok (.istore_n k, 1)) (hi : (k : Nat) = i) (h : zLoc h0 sp ls nL L) (hn : i < nL)
    (kk : ∀ ls' : Array Slot, zLoc h0 sp ls' nL (L.set i (.int x)) → W p l e R s m args below meth c H locs cells slots Q (F0 m (pc + 1) ls' rest)) : W p l e R s m args below meth c H locs cells slots Q (F0 m pc ls (.int x :: rest)) := by
  subst hi
  obtain ⟨ls', e', h'⟩ := zLoc_store (v := .int x) h hn rfl
  have e' : storeLocals ls k (.int x) = some ls' := e'
  intro T hT X
  obtain ⟨t, a, b⟩ := kk ls' h' T hT X
  refine ⟨t, ?_, b⟩
  jvm_step X.here [X.here.top, hexec, hb, hdg, e']
  exact a
theorem zr_astore (hexec : p.tables.exec = Jvm.exec) (hb : c.code = cc) {i nL : Nat} {L : List Value} {x : Nat} (hdg : decode cc pc = .ok (.astore i, 2)) (h : zLoc h0 sp ls nL L) (hn : i < nL)
    (kk : ∀ ls' : Array Slot, zLoc h0 sp ls' nL (L.set i (.ref x)) → W p l e R s m args below meth c H locs cells slots Q (F0 m (pc + 2) ls' rest)) : W p l e R s m args below meth c H locs cells slots Q (F0 m pc ls (.ref (zad h0 sp x) :: rest)) := by
  obtain ⟨ls', e', h'⟩ := zLoc_store (v := .ref x) h hn rfl
  have e' : storeLocals ls i (.ref (zad h0 sp x)) = some ls' := e'
  intro T hT X
  obtain ⟨t, a, b⟩ := kk ls' h' T hT X
  refine ⟨t, ?_, b⟩
  jvm_step X.here [X.here.top, hexec, hb, hdg, e', Value.isRef]
  exact a
theorem zr_astore_n (hexec : p.tables.exec = Jvm.exec) (hb : c.code = cc) {k : Fin 4} {i nL : Nat} {L : List Value} {x : Nat} (hdg : decode cc pc = .ok (.astore_n k, 1)) (hi : (k : Nat) = i) (h : zLoc h0 sp ls nL L) (hn : i < nL)
    (kk : ∀ ls' : Array Slot, zLoc h0 sp ls' nL (L.set i (.ref x)) → W p l e R s m args below meth c H locs cells slots Q (F0 m (pc + 1) ls' rest)) : W p l e R s m args below meth c H locs cells slots Q (F0 m pc ls (.ref (zad h0 sp x) :: rest)) := by
  subst hi
  obtain ⟨ls', e', h'⟩ := zLoc_store (v := .ref x) h hn rfl
  have e' : storeLocals ls k (.ref (zad h0 sp x)) = some ls' := e'
  intro T hT X
  obtain ⟨t, a, b⟩ := kk ls' h' T hT X
  refine ⟨t, ?_, b⟩
  jvm_step X.here [X.here.top, hexec, hb, hdg, e', Value.isRef]
  exact a
theorem zr_astoreN (hexec : p.tables.exec = Jvm.exec) (hb : c.code = cc) {i nL : Nat} {L : List Value} (hdg : decode cc pc = .ok (.astore i, 2)) (h : zLoc h0 sp ls nL L) (hn : i < nL)
    (kk : ∀ ls' : Array Slot, zLoc h0 sp ls' nL (L.set i .null) → W p l e R s m args below meth c H locs cells slots Q (F0 m (pc + 2) ls' rest)) : W p l e R s m args below meth c H locs cells slots Q (F0 m pc ls (.null :: rest)) := by
  obtain ⟨ls', e', h'⟩ := zLoc_store (v := .null) h hn rfl
  have e' : storeLocals ls i .null = some ls' := e'
  intro T hT X
  obtain ⟨t, a, b⟩ := kk ls' h' T hT X
  refine ⟨t, ?_, b⟩
  jvm_step X.here [X.here.top, hexec, hb, hdg, e', Value.isRef]
  exact a
theorem zr_astoreN_n (hexec : p.tables.exec = Jvm.exec) (hb : c.code = cc) {k : Fin 4} {i nL : Nat} {L : List Value} (hdg : decode cc pc = .ok (.astore_n k, 1)) (hi : (k : Nat) = i) (h : zLoc h0 sp ls nL L) (hn : i < nL)
    (kk : ∀ ls' : Array Slot, zLoc h0 sp ls' nL (L.set i .null) → W p l e R s m args below meth c H locs cells slots Q (F0 m (pc + 1) ls' rest)) : W p l e R s m args below meth c H locs cells slots Q (F0 m pc ls (.null :: rest)) := by
  subst hi
  obtain ⟨ls', e', h'⟩ := zLoc_store (v := .null) h hn rfl
  have e' : storeLocals ls k .null = some ls' := e'
  intro T hT X
  obtain ⟨t, a, b⟩ := kk ls' h' T hT X
  refine ⟨t, ?_, b⟩
  jvm_step X.here [X.here.top, hexec, hb, hdg, e', Value.isRef]
  exact a
theorem zr_aloadN (hexec : p.tables.exec = Jvm.exec) (hb : c.code = cc) {i : Nat} (hdg : decode cc pc = .ok (.aload i, 2)) (hl : ls[i]? = some (.val .null))
    (k : W p l e R s m args below meth c H locs cells slots Q (F0 m (pc + 2) ls (.null :: rest))) : W p l e R s m args below meth c H locs cells slots Q (F0 m pc ls (rest)) := by
  intro T hT X
  obtain ⟨t, a, b⟩ := k T hT X
  refine ⟨t, ?_, b⟩
  jvm_step X.here [X.here.top, hexec, hb, hdg, hl, Value.isRef]
  exact a
theorem zr_aloadN_n (hexec : p.tables.exec = Jvm.exec) (hb : c.code = cc) {k : Fin 4} {i : Nat} (hdg : decode cc pc = .ok (.aload_n k, 1)) (hi : (k : Nat) = i) (hl : ls[i]? = some (.val .null))
    (k : W p l e R s m args below meth c H locs cells slots Q (F0 m (pc + 1) ls (.null :: rest))) : W p l e R s m args below meth c H locs cells slots Q (F0 m pc ls (rest)) := by
  subst hi
  intro T hT X
  obtain ⟨t, a, b⟩ := k T hT X
  refine ⟨t, ?_, b⟩
  jvm_step X.here [X.here.top, hexec, hb, hdg, hl, Value.isRef]
  exact a
theorem zr_iinc (hexec : p.tables.exec = Jvm.exec) (hb : c.code = cc) {i nL : Nat} {n : Int} {L : List Value} {x : Int32} (hdg : decode cc pc = .ok (.iinc i n, 3)) (h : zLoc h0 sp ls nL L) (hx : L[i]? = some (.int x))
    (kk : ∀ ls' : Array Slot, zLoc h0 sp ls' nL (L.set i (.int (x + Int32.ofInt n))) → W p l e R s m args below meth c H locs cells slots Q (F0 m (pc + 3) ls' rest)) : W p l e R s m args below meth c H locs cells slots Q (F0 m pc ls rest) := by
  have hn : i < nL := by rw [← h.2.2.1]; exact (List.getElem?_eq_some_iff.mp hx).1
  have hg : ls[i]? = some (.val (.int x)) := h.2.2.2 i (.int x) hx rfl
  obtain ⟨ls', e', h'⟩ := zLoc_store (v := .int (x + Int32.ofInt n)) h hn rfl
  have e' : storeLocals ls i (.int (x + Int32.ofInt n)) = some ls' := e'
  intro T hT X
  obtain ⟨t, a, b⟩ := kk ls' h' T hT X
  refine ⟨t, ?_, b⟩
  jvm_step X.here [X.here.top, ↓top_set X.here.top, hexec, hb, hdg, hg, e']
  exact a
theorem zr_get (hexec : p.tables.exec = Jvm.exec) (hb : c.code = cc) (hts : ∀ w ∈ zTb, w.before args s = true) (hown : s.vm.findClass own = some m.cls) (hK : va_K D vwCl [(cy 100, .int), (cy 101, .boolean), (cy 102, .byte), (cy 103, .array .int)] s) {a ci j w2 N : Nat} {C : String} {T : u_T} (hq : vwCl[ci]? = some (C, T, N)) (hj : j < N) (hC : (T j).1 = C) (hlk : Cond.fieldLink own w2 C (T j).2.1 (T j).2.2.1 ∈ zTb)
    (hP : zP D cy h0 sp M H) (ha : a < zn M) (hta : zt M a = ci) (hdg : decode cc pc = .ok (.getfield w2, 3))
    (kk : W p l e R s m args below meth c H locs cells slots Q (F0 m (pc + 3) ls (zfv h0 sp M a ci j :: rest))) : W p l e R s m args below meth c H locs cells slots Q (F0 m pc ls (.ref (zad h0 sp a) :: rest)) := by
  subst hta
  obtain ⟨cell, q1, q2, q3, q4⟩ := (hP.2.2 a ha).1 _ hq
  obtain ⟨hS, hfc, kC, hkC, hkind⟩ := hK.1 _ _ hq
  obtain ⟨cf, kf, fi, f, hi, hsl⟩ := hS j hj
  have hi2 : s.fieldFound? C (T j).2.1 (T j).2.2.1 = some (cf, kf, fi, f) := by rw [← hi]; show _ = s.fieldFound? (T j).1 _ _; rw [hC]
  rw [zad_lt (zP_lt hP ha)]
  refine W.getf hexec hb hown (hts _ hlk) hi2 (u_facts hfc hkC (u_lays hts (zcls_in _ _ hq) hj) hi).1 q1 (by rw [q3]; exact fun h => by cases h) (v := zfv h0 sp M a (zt M a) j) ?_ rfl rfl hdg kk
  rw [hsl]
  exact q4 j hj
theorem zr_put (hexec : p.tables.exec = Jvm.exec) (hb : c.code = cc) (hts : ∀ w ∈ zTb, w.before args s = true) (hown : s.vm.findClass own = some m.cls) (hK : va_K D vwCl [(cy 100, .int), (cy 101, .boolean), (cy 102, .byte), (cy 103, .array .int)] s) {a ci j w2 N : Nat} {C : String} {T : u_T} {v : Value} (hq : vwCl[ci]? = some (C, T, N)) (hj : j < N) (hC : (T j).1 = C) (hlk : Cond.fieldLink own w2 C (T j).2.1 (T j).2.2.1 ∈ zTb)
    (hfin : (T j).2.2.2 = false ∨ (meth.name = "<init>" ∧ C = own)) (hn : narrow (zty ci j) v = v) (hfit : fits (zty ci j) v = true)
    (hP : zP D cy h0 sp M H) (hSS : va_S (fun q => h0 ≤ q) s.heap H locs) (ha : a < zn M) (hta : zt M a = ci) (hdg : decode cc pc = .ok (.putfield w2, 3))
    (kk : ∀ (H1 : Heap) (locs1 : List Loc), (∀ V : Nat → Value, (∀ i, i < N → updV (zfv h0 sp M a ci) j v i = V i) → t_OB (h0 + a) (D.1 ci) N (D.2 ci) H1 V) → H1.size = H.size → (∀ q : Nat, q ≠ h0 + a → H1[q]? = H[q]?) → va_S (fun q => h0 ≤ q) s.heap H1 locs1 → W p l e R s m args below meth c H1 locs1 cells slots Q (F0 m (pc + 3) ls rest)) : W p l e R s m args below meth c H locs cells slots Q (F0 m pc ls (v :: .ref (zad h0 sp a) :: rest)) := by
  subst hta
  have hap := va_apart (own := own) hts (zcls_in _ _ hq) (zty (zt M a)) (zcls_ty _ _ hq) (zcls_nm _ _ hq) hK hq
  obtain ⟨cell, q1, q2, q3, q4⟩ := (hP.2.2 a ha).1 _ hq
  obtain ⟨hS, hfc, kC, hkC, hkind⟩ := hK.1 _ _ hq
  obtain ⟨cf, kf, fi, f, hi, hsl⟩ := hS j hj
  have hi2 : s.fieldFound? C (T j).2.1 (T j).2.2.1 = some (cf, kf, fi, f) := by rw [← hi]; show _ = s.fieldFound? (T j).1 _ _; rw [hC]
  have hst := (u_facts hfc hkC (u_lays hts (zcls_in _ _ hq) hj) hi).1
  have hd := zcls_ty _ _ hq j hj
  have hlay := hts _ (zcls_in _ _ hq _ (u_in_lay hj))
  have hh : h0 ≤ h0 + a := Nat.le_add_right _ _
  rw [zad_lt (zP_lt hP ha)]
  have fin : ∀ H' : Heap, H'[h0 + a]? = some (cell.setSlot f.slot v) → ∀ V : Nat → Value, (∀ i, i < N → updV (zfv h0 sp M a (zt M a)) j v i = V i) → t_OB (h0 + a) (D.1 (zt M a)) N (D.2 (zt M a)) H' V := by
    intro H' e1 V hV
    rw [hsl] at e1
    exact t_OB.to (V := updV (zfv h0 sp M a (zt M a)) j v) ⟨_, e1, q2, q3, t_set q4 hap hj v⟩ hV
  unfold u_lay at hlay
  by_cases hf : (T j).2.2.2 = true
  · rw [if_pos hf] at hlay
    obtain ⟨hin, hCo⟩ : meth.name = "<init>" ∧ C = own := by
      rcases hfin with h | h
      · rw [hf] at h; cases h
      · exact h
    have hcf : m.cls = cf := by
      obtain ⟨_, _, c', _, _, _, -, -, hf', -, -, -, hown2, -⟩ := Cond.laysFinal_spec hlay
      have e1 : c' = cf := by have := hi.symm.trans hf'; simp at this; exact this.1.symm
      have e2 : (T j).1 = own := hC.trans hCo
      rw [e2] at hown2
      rw [← e1]; exact Option.some.inj (hown.symm.trans hown2)
    have h6 := u_fits hfc hkC hkind (Or.inr hlay) hi hd hn hfit
    refine W.putFinK hexec hb hown (hts _ hlk) hi2 hst hcf hin (by rw [q2]; exact h6) q1 q3 (by rw [hsl]; exact k2_hasslot (q4 j hj)) rfl rfl hdg fun H' e1 e2 e3 => ?_
    exact kk H' _ (fin H' e1) e2 e3 (hSS.put e2 e3 hh)
  · rw [if_neg hf] at hlay
    have h6 := u_store hfc hkC hkind hlay hi hd hn hfit
    refine W.putK hexec hb (f := f) ⟨hown, hts _ hlk, ⟨_, _, _, hi2⟩, hst⟩ (by rw [q2]; exact h6) q1 q3 (by rw [hsl]; exact k2_hasslot (q4 j hj)) rfl rfl hdg fun H' e1 e2 e3 => ?_
    exact kk H' _ (fin H' e1) e2 e3 (hSS.put e2 e3 hh)
theorem zP_cell (hP : zP D cy h0 sp M H) {a t : Nat} (ha : a < zn M) (hta : zt M a = t) (h1 : 100 ≤ t) (h2 : t < 104) : H[h0 + a]? = some (arrV (cy t) (zl M a) (zrow h0 sp M a t)) := by
  subst hta
  exact (hP.2.2 a ha).2 h1 h2
theorem zr_call {mc ms : Nat} {st0 : List Value} {r : Value} {M' : zM} {a : Array Value} (hr : va_Run p l e R s m args below meth c H locs cells slots mc ms (F0 m pc ls st0) rest (zQc D cy h0 sp r M' a) (fun q => h0 ≤ q)) (hS : va_S (fun q => h0 ≤ q) s.heap H locs)
    (kk : ∀ (H1 : Heap) (locs1 : List Loc), zP D cy h0 sp M' H1 → H1.size = h0 + zn M' → va_S (fun q => h0 ≤ q) s.heap H1 locs1 → W p l e R s m args below meth c H1 locs1 (cells + mc) (slots + ms) Q (F0 m (pc + 3) ls ((zro h0 sp r).toList ++ rest))) : W p l e R s m args below meth c H locs cells slots Q (F0 m pc ls st0) := by
  intro T hT X
  obtain ⟨v, st₀, t, T', L, g0, X', hL, e1, e2, ⟨hv, hz, hP, hF⟩, st⟩ := hr T hT X
  cases hv
  obtain ⟨hF1, hF2⟩ := hF
  rw [g0] at hF1 hF2
  obtain ⟨t2, a1, b1⟩ := kk T'.heap (locs ++ L) (by rw [e1]; exact hP) (by rw [e1]; exact hz)
    ⟨Nat.le_trans hS.1 (by rw [e1]; exact hF1), fun q h1 h2 => by rw [e1, hF2 q (Nat.lt_of_lt_of_le h1 hS.1) h2]; exact hS.2.1 q h1 h2, fun q hq => by
      rcases List.mem_append.mp hq with h | h
      · exact hS.2.2 q h
      · exact hL q h⟩ T' rfl X'
  exact ⟨t2, st t2 a1, b1⟩
end ZR
end
section
/-! THE WALK -/
theorem zmath : Cond.static Lib.Math.max.name ∈ zTb ∧ Cond.static Lib.Math.min.name ∈ zTb ∧ Cond.initialized "java/lang/Math" ∈ zTb ∧ Cond.code Lib.Math.max.name Lib.Math.max.code 2 (some .int) ∈ zTb ∧ Cond.code Lib.Math.min.name Lib.Math.min.code 2 (some .int) ∈ zTb :=
  ⟨zw_in (i := 3069) (by decide +kernel), zw_in (i := 2217) (by decide +kernel), zw_in (i := 1014) (by decide +kernel), zw_in (i := 3070) (by decide +kernel), zw_in (i := 2218) (by decide +kernel)⟩
theorem zfr_narrow {c j : Nat} (h : zFr c j = true) (a : Nat) : narrow (zty c j) (.ref a) = .ref a := by
  revert h
  unfold zFr
  cases zty c j <;> simp [narrow]
theorem zfr_fits {c j : Nat} (h : zFr c j = true) (a : Nat) : fits (zty c j) (.ref a) = true := by
  revert h
  unfold zFr
  cases zty c j <;> simp [fits]
set_option maxHeartbeats 4000000 in
set_option maxRecDepth 100000 in
theorem zwalk {p : Program} {l : Launch} {e : Env} {R : Room} {s : State} {m : MethodId} {args : Array Value} {below : List Frame} {meth : Method} {c : Code} {Q : State → Prop} {cc : ByteArray} {nL : Nat} {own : String} {ini : Bool} {ret : Option FieldType}
    {D : va_G} {cy : Nat → ClassId} {h0 : Nat} {sp : Nat → Nat} {X X' : zX} {cd : List zE} {md : Nat → zMd} {gs : List Nat} {d : Nat} {E : Nat → zF} {y : Value × zM} {n0 s0 : Nat}
    (hx : p.tables.exec = Jvm.exec) (hb : c.code = cc) (hml : c.maxLocals = nL) (hown : s.vm.findClass own = some m.cls) (hts : ∀ w ∈ zTb, w.before args s = true) (hini : ini = true → meth.name = "<init>")
    (hEv : zEnv D cy h0 sp X s) (hX : X'.1 = 0 ∨ X' = X) (hR : d + 1 ≤ R.frames ∧ 60 * (d + 1) ≤ R.locals ∧ zn y.2 - n0 ≤ R.cells ∧ zsl y.2 - s0 ≤ R.slots)
    (hch : zchain cd = true) (hck : ∀ (o : Nat) (e : zE), cd[o]? = some e → decode cc e.1 = .ok (e.2.2.1, e.2.1) ∧ zck own ini cd ret md gs e = true)
    (hE : ∀ g ∈ gs, zSnd d (md g) (E g))
    (hRi : ∀ (v : Int32) (M : zM) (H : Heap) (locs : List Loc) (ls : Array Slot) (pc : Nat), y = (.int v, M) → (ret = some .int ∨ ((ret = some .boolean ∨ ret = some .byte) ∧ (v = 0 ∨ v = 1))) → decode cc pc = .ok (.ireturn, 1) → n0 ≤ zn M → s0 ≤ zsl M → zP D cy h0 sp M H → H.size = h0 + zn M → va_S (fun q => h0 ≤ q) s.heap H locs → W p l e R s m args below meth c H locs (zn M - n0) (zsl M - s0) Q (F0 m pc ls [.int v]))
    (hRv : ∀ (M : zM) (H : Heap) (locs : List Loc) (ls : Array Slot) (pc : Nat), y = (.long 0, M) → ret = none → decode cc pc = .ok (.return_, 1) → n0 ≤ zn M → s0 ≤ zsl M → zP D cy h0 sp M H → H.size = h0 + zn M → va_S (fun q => h0 ≤ q) s.heap H locs → W p l e R s m args below meth c H locs (zn M - n0) (zsl M - s0) Q (F0 m pc ls []))
    (hRa : ∀ (a : Nat) (M : zM) (H : Heap) (locs : List Loc) (ls : Array Slot) (pc : Nat), y = (.ref a, M) → (∃ C, ret = some (.object C)) → decode cc pc = .ok (.areturn, 1) → n0 ≤ zn M → s0 ≤ zsl M → zP D cy h0 sp M H → H.size = h0 + zn M → va_S (fun q => h0 ≤ q) s.heap H locs → W p l e R s m args below meth c H locs (zn M - n0) (zsl M - s0) Q (F0 m pc ls [.ref (zad h0 sp a)])) :
    ∀ (n : Nat) (x : zCf), zrunT X' (cd.map (fun e => e.2.2.2.1)) E n x = some y →
      zn x.2.2.2 ≤ zn y.2 ∧ zsl x.2.2.2 ≤ zsl y.2 ∧ ∀ (H : Heap) (locs : List Loc) (ls : Array Slot), n0 ≤ zn x.2.2.2 → s0 ≤ zsl x.2.2.2 → zP D cy h0 sp x.2.2.2 H → H.size = h0 + zn x.2.2.2 → va_S (fun q => h0 ≤ q) s.heap H locs → zLoc h0 sp ls nL x.2.1 →
        W p l e R s m args below meth c H locs (zn x.2.2.2 - n0) (zsl x.2.2.2 - s0) Q (F0 m (zpc cd x.1) ls (x.2.2.1.map (zav h0 sp))) := by
  intro n
  induction n with
  | zero => intro x h; cases h
  | succ n ih =>
  rintro ⟨o, L, st, M⟩ h
  simp only [zrunT, zstep] at h
  cases ho : cd[o]? with
  | none => rw [List.getElem?_map, ho] at h; cases h
  | some en =>
  rw [List.getElem?_map, ho] at h
  dsimp only [Option.map] at h
  obtain ⟨hd, hc⟩ := hck o en ho
  have hp0 := zpc_at ho
  have hp1 := zpc_next hch ho
  dsimp only
  rw [hp0]
  clear hp0 ho
  obtain ⟨pc, len, re, mi, w1, w2⟩ := en
  dsimp only at hd hp1 h hc ⊢
  have hKK := hEv.1
  cases mi with
  | iconst v =>
    simp only [zexec] at h
    have g := ih _ h
    refine ⟨g.1, g.2.1, fun H locs ls hn0 hs0 hP hz hS hL => ?_⟩
    have w := g.2.2 H locs ls hn0 hs0 hP hz hS hL
    simp only [zck, Bool.or_eq_true, Bool.and_eq_true, decide_eq_true_eq] at hc
    rcases hc with (((⟨rfl, rfl⟩ | ⟨rfl, rfl, hv⟩) | ⟨rfl, rfl, hv⟩) | ⟨⟨rfl, rfl⟩, hw⟩) | ⟨⟨rfl, rfl⟩, hw⟩
    · rw [hp1] at w; exact lv_iconst hx hb hd rfl w
    · rw [hp1] at w; exact lv_bipush hx hb hd hv w
    · rw [hp1] at w; exact lv_sipush hx hb hd hv w
    · rw [hp1] at w; exact lv_ldc hx hb hown (hts _ (zw_in hw)) hd w
    · rw [hp1] at w; exact lv_ldcw hx hb hown (hts _ (zw_in hw)) hd w
  | aconst_null =>
    simp only [zexec] at h
    have g := ih _ h
    refine ⟨g.1, g.2.1, fun H locs ls hn0 hs0 hP hz hS hL => ?_⟩
    have w := g.2.2 H locs ls hn0 hs0 hP hz hS hL
    simp only [zck, decide_eq_true_eq] at hc
    obtain ⟨rfl, rfl⟩ := hc
    rw [hp1] at w
    exact lv_null hx hb hd w
  | iload j =>
    simp only [zexec] at h
    split at h
    · rename_i v hv
      have g := ih _ h
      refine ⟨g.1, g.2.1, fun H locs ls hn0 hs0 hP hz hS hL => ?_⟩
      have w := g.2.2 H locs ls hn0 hs0 hP hz hS hL
      have hl := hL.2.2.2 j _ hv rfl
      simp only [zck, Bool.or_eq_true, Bool.and_eq_true, decide_eq_true_eq] at hc
      rcases hc with ⟨rfl, rfl⟩ | ⟨hc, rfl⟩
      · rw [hp1] at w; exact lv_iload hx hb hd hl w
      · obtain ⟨k, rfl, rfl⟩ := z4_ex hc
        rw [hp1] at w; exact lv_iload_n hx hb hd rfl hl w
    · cases h
  | aload j =>
    simp only [zexec] at h
    split at h
    · rename_i v hv
      have g := ih _ h
      refine ⟨g.1, g.2.1, fun H locs ls hn0 hs0 hP hz hS hL => ?_⟩
      have w := g.2.2 H locs ls hn0 hs0 hP hz hS hL
      have hl := hL.2.2.2 j _ hv rfl
      simp only [zck, Bool.or_eq_true, Bool.and_eq_true, decide_eq_true_eq] at hc
      rcases hc with ⟨rfl, rfl⟩ | ⟨hc, rfl⟩
      · rw [hp1] at w; exact lv_aload hx hb hd hl w
      · obtain ⟨k, rfl, rfl⟩ := z4_ex hc
        rw [hp1] at w; exact lv_aload_n hx hb hd rfl hl w
    · rename_i hv
      have g := ih _ h
      refine ⟨g.1, g.2.1, fun H locs ls hn0 hs0 hP hz hS hL => ?_⟩
      have w := g.2.2 H locs ls hn0 hs0 hP hz hS hL
      have hl := hL.2.2.2 j _ hv rfl
      simp only [zck, Bool.or_eq_true, Bool.and_eq_true, decide_eq_true_eq] at hc
      rcases hc with ⟨rfl, rfl⟩ | ⟨hc, rfl⟩
      · rw [hp1] at w; exact zr_aloadN hx hb hd hl w
      · obtain ⟨k, rfl, rfl⟩ := z4_ex hc
        rw [hp1] at w; exact zr_aloadN_n hx hb hd rfl hl w
    · cases h
  | istore j =>
    simp only [zexec] at h
    have hh := z1_some h
    clear h
    obtain ⟨v, r, rfl, h⟩ := hh
    obtain ⟨hj, h⟩ := zif_some h
    have g := ih _ h
    refine ⟨g.1, g.2.1, fun H locs ls hn0 hs0 hP hz hS hL => ?_⟩
    have hj' : j < nL := by rw [← hL.2.2.1]; exact hj
    have w := fun ls' hL' => g.2.2 H locs ls' hn0 hs0 hP hz hS hL'
    simp only [zck, Bool.or_eq_true, Bool.and_eq_true, decide_eq_true_eq] at hc
    rcases hc with ⟨rfl, rfl⟩ | ⟨hc, rfl⟩
    · rw [hp1] at w; exact zr_istore hx hb hd hL hj' w
    · obtain ⟨k, rfl, rfl⟩ := z4_ex hc
      rw [hp1] at w; exact zr_istore_n hx hb hd rfl hL hj' w
  | astore j =>
    simp only [zexec] at h
    split at h
    · rename_i a r
      obtain ⟨hj, h⟩ := zif_some h
      have g := ih _ h
      refine ⟨g.1, g.2.1, fun H locs ls hn0 hs0 hP hz hS hL => ?_⟩
      have hj' : j < nL := by rw [← hL.2.2.1]; exact hj
      have w := fun ls' hL' => g.2.2 H locs ls' hn0 hs0 hP hz hS hL'
      simp only [zck, Bool.or_eq_true, Bool.and_eq_true, decide_eq_true_eq] at hc
      rcases hc with ⟨rfl, rfl⟩ | ⟨hc, rfl⟩
      · rw [hp1] at w; exact zr_astore hx hb hd hL hj' w
      · obtain ⟨k, rfl, rfl⟩ := z4_ex hc
        rw [hp1] at w; exact zr_astore_n hx hb hd rfl hL hj' w
    · rename_i r
      obtain ⟨hj, h⟩ := zif_some h
      have g := ih _ h
      refine ⟨g.1, g.2.1, fun H locs ls hn0 hs0 hP hz hS hL => ?_⟩
      have hj' : j < nL := by rw [← hL.2.2.1]; exact hj
      have w := fun ls' hL' => g.2.2 H locs ls' hn0 hs0 hP hz hS hL'
      simp only [zck, Bool.or_eq_true, Bool.and_eq_true, decide_eq_true_eq] at hc
      rcases hc with ⟨rfl, rfl⟩ | ⟨hc, rfl⟩
      · rw [hp1] at w; exact zr_astoreN hx hb hd hL hj' w
      · obtain ⟨k, rfl, rfl⟩ := z4_ex hc
        rw [hp1] at w; exact zr_astoreN_n hx hb hd rfl hL hj' w
    · cases h
  | iinc j k =>
    simp only [zexec] at h
    split at h
    · rename_i v hv
      have g := ih _ h
      refine ⟨g.1, g.2.1, fun H locs ls hn0 hs0 hP hz hS hL => ?_⟩
      have w := fun ls' hL' => g.2.2 H locs ls' hn0 hs0 hP hz hS hL'
      simp only [zck, decide_eq_true_eq] at hc
      obtain ⟨rfl, rfl⟩ := hc
      rw [hp1] at w
      exact zr_iinc hx hb hd hL hv w
    · cases h
  | iadd =>
    simp only [zexec] at h
    have hh := z2_some h
    clear h
    obtain ⟨a, b, r, rfl, h⟩ := hh
    have g := ih _ h
    refine ⟨g.1, g.2.1, fun H locs ls hn0 hs0 hP hz hS hL => ?_⟩
    have w := g.2.2 H locs ls hn0 hs0 hP hz hS hL
    simp only [zck, decide_eq_true_eq] at hc
    obtain ⟨rfl, rfl⟩ := hc
    rw [hp1] at w
    exact lv_iadd hx hb hd w
  | isub =>
    simp only [zexec] at h
    have hh := z2_some h
    clear h
    obtain ⟨a, b, r, rfl, h⟩ := hh
    have g := ih _ h
    refine ⟨g.1, g.2.1, fun H locs ls hn0 hs0 hP hz hS hL => ?_⟩
    have w := g.2.2 H locs ls hn0 hs0 hP hz hS hL
    simp only [zck, decide_eq_true_eq] at hc
    obtain ⟨rfl, rfl⟩ := hc
    rw [hp1] at w
    exact lv_isub hx hb hd w
  | imul =>
    simp only [zexec] at h
    have hh := z2_some h
    clear h
    obtain ⟨a, b, r, rfl, h⟩ := hh
    have g := ih _ h
    refine ⟨g.1, g.2.1, fun H locs ls hn0 hs0 hP hz hS hL => ?_⟩
    have w := g.2.2 H locs ls hn0 hs0 hP hz hS hL
    simp only [zck, decide_eq_true_eq] at hc
    obtain ⟨rfl, rfl⟩ := hc
    rw [hp1] at w
    exact lv_imul hx hb hd w
  | iand =>
    simp only [zexec] at h
    have hh := z2_some h
    clear h
    obtain ⟨a, b, r, rfl, h⟩ := hh
    have g := ih _ h
    refine ⟨g.1, g.2.1, fun H locs ls hn0 hs0 hP hz hS hL => ?_⟩
    have w := g.2.2 H locs ls hn0 hs0 hP hz hS hL
    simp only [zck, decide_eq_true_eq] at hc
    obtain ⟨rfl, rfl⟩ := hc
    rw [hp1] at w
    exact lv_iand hx hb hd w
  | ior =>
    simp only [zexec] at h
    have hh := z2_some h
    clear h
    obtain ⟨a, b, r, rfl, h⟩ := hh
    have g := ih _ h
    refine ⟨g.1, g.2.1, fun H locs ls hn0 hs0 hP hz hS hL => ?_⟩
    have w := g.2.2 H locs ls hn0 hs0 hP hz hS hL
    simp only [zck, decide_eq_true_eq] at hc
    obtain ⟨rfl, rfl⟩ := hc
    rw [hp1] at w
    exact lv_ior hx hb hd w
  | ixor =>
    simp only [zexec] at h
    have hh := z2_some h
    clear h
    obtain ⟨a, b, r, rfl, h⟩ := hh
    have g := ih _ h
    refine ⟨g.1, g.2.1, fun H locs ls hn0 hs0 hP hz hS hL => ?_⟩
    have w := g.2.2 H locs ls hn0 hs0 hP hz hS hL
    simp only [zck, decide_eq_true_eq] at hc
    obtain ⟨rfl, rfl⟩ := hc
    rw [hp1] at w
    exact lv_ixor hx hb hd w
  | ishl =>
    simp only [zexec] at h
    have hh := z2_some h
    clear h
    obtain ⟨a, b, r, rfl, h⟩ := hh
    have g := ih _ h
    refine ⟨g.1, g.2.1, fun H locs ls hn0 hs0 hP hz hS hL => ?_⟩
    have w := g.2.2 H locs ls hn0 hs0 hP hz hS hL
    simp only [zck, decide_eq_true_eq] at hc
    obtain ⟨rfl, rfl⟩ := hc
    rw [hp1] at w
    exact lv_ishl hx hb hd w
  | ishr =>
    simp only [zexec] at h
    have hh := z2_some h
    clear h
    obtain ⟨a, b, r, rfl, h⟩ := hh
    have g := ih _ h
    refine ⟨g.1, g.2.1, fun H locs ls hn0 hs0 hP hz hS hL => ?_⟩
    have w := g.2.2 H locs ls hn0 hs0 hP hz hS hL
    simp only [zck, decide_eq_true_eq] at hc
    obtain ⟨rfl, rfl⟩ := hc
    rw [hp1] at w
    exact lv_ishr hx hb hd w
  | iushr =>
    simp only [zexec] at h
    have hh := z2_some h
    clear h
    obtain ⟨a, b, r, rfl, h⟩ := hh
    have g := ih _ h
    refine ⟨g.1, g.2.1, fun H locs ls hn0 hs0 hP hz hS hL => ?_⟩
    have w := g.2.2 H locs ls hn0 hs0 hP hz hS hL
    simp only [zck, decide_eq_true_eq] at hc
    obtain ⟨rfl, rfl⟩ := hc
    rw [hp1] at w
    exact lv_iushr hx hb hd rfl w
  | idiv =>
    simp only [zexec] at h
    have hh := z2_some h
    clear h
    obtain ⟨a, b, r, rfl, h⟩ := hh
    by_cases hz0 : b = 0
    · rw [if_pos hz0] at h; cases h
    · rw [if_neg hz0] at h
      have g := ih _ h
      refine ⟨g.1, g.2.1, fun H locs ls hn0 hs0 hP hz hS hL => ?_⟩
      have w := g.2.2 H locs ls hn0 hs0 hP hz hS hL
      simp only [zck, decide_eq_true_eq] at hc
      obtain ⟨rfl, rfl⟩ := hc
      rw [hp1] at w
      exact lv_idiv hx hb hd hz0 w
  | irem =>
    simp only [zexec] at h
    have hh := z2_some h
    clear h
    obtain ⟨a, b, r, rfl, h⟩ := hh
    by_cases hz0 : b = 0
    · rw [if_pos hz0] at h; cases h
    · rw [if_neg hz0] at h
      have g := ih _ h
      refine ⟨g.1, g.2.1, fun H locs ls hn0 hs0 hP hz hS hL => ?_⟩
      have w := g.2.2 H locs ls hn0 hs0 hP hz hS hL
      simp only [zck, decide_eq_true_eq] at hc
      obtain ⟨rfl, rfl⟩ := hc
      rw [hp1] at w
      exact lv_irem hx hb hd hz0 w
  | fadd =>
    simp only [zexec] at h
    have hh := z2_some h
    clear h
    obtain ⟨a, b, r, rfl, h⟩ := hh
    obtain ⟨hcat, h⟩ := zif_some h
    have g := ih _ h
    have g1 := g.1
    have g2 := g.2.1
    dsimp only at g1 g2
    refine ⟨g.1, g.2.1, fun H locs ls hn0 hs0 hP hz hS hL => ?_⟩
    have w := g.2.2 H locs ls hn0 hs0 hP hz hS hL
    simp only [zck, Bool.and_eq_true, decide_eq_true_eq] at hc
    obtain ⟨⟨rfl, rfl⟩, hw⟩ := hc
    rw [hp1] at w
    exact va_mmax hx hb (hml.trans hL.1.symm) hown (hts _ (zw_in hw)) (hts _ zmath.1) (hts _ zmath.2.2.1) (hts _ zmath.2.2.2.1) (by omega) (by rw [zcat_map]; omega) (by omega) (by omega) hd w
  | fsub =>
    simp only [zexec] at h
    have hh := z2_some h
    clear h
    obtain ⟨a, b, r, rfl, h⟩ := hh
    obtain ⟨hcat, h⟩ := zif_some h
    have g := ih _ h
    have g1 := g.1
    have g2 := g.2.1
    dsimp only at g1 g2
    refine ⟨g.1, g.2.1, fun H locs ls hn0 hs0 hP hz hS hL => ?_⟩
    have w := g.2.2 H locs ls hn0 hs0 hP hz hS hL
    simp only [zck, Bool.and_eq_true, decide_eq_true_eq] at hc
    obtain ⟨⟨rfl, rfl⟩, hw⟩ := hc
    rw [hp1] at w
    exact va_mmin hx hb (hml.trans hL.1.symm) hown (hts _ (zw_in hw)) (hts _ zmath.2.1) (hts _ zmath.2.2.1) (hts _ zmath.2.2.2.2) (by omega) (by rw [zcat_map]; omega) (by omega) (by omega) hd w
  | ineg =>
    simp only [zexec] at h
    have hh := z1_some h
    clear h
    obtain ⟨a, r, rfl, h⟩ := hh
    have g := ih _ h
    refine ⟨g.1, g.2.1, fun H locs ls hn0 hs0 hP hz hS hL => ?_⟩
    have w := g.2.2 H locs ls hn0 hs0 hP hz hS hL
    simp only [zck, decide_eq_true_eq] at hc
    obtain ⟨rfl, rfl⟩ := hc
    rw [hp1] at w
    exact lv_ineg hx hb hd w
  | i2b =>
    simp only [zexec] at h
    have hh := z1_some h
    clear h
    obtain ⟨a, r, rfl, h⟩ := hh
    have g := ih _ h
    refine ⟨g.1, g.2.1, fun H locs ls hn0 hs0 hP hz hS hL => ?_⟩
    have w := g.2.2 H locs ls hn0 hs0 hP hz hS hL
    simp only [zck, decide_eq_true_eq] at hc
    obtain ⟨rfl, rfl⟩ := hc
    rw [hp1] at w
    exact lv_i2b hx hb hd rfl w
  | i2c =>
    simp only [zexec] at h
    have hh := z1_some h
    clear h
    obtain ⟨a, r, rfl, h⟩ := hh
    have g := ih _ h
    refine ⟨g.1, g.2.1, fun H locs ls hn0 hs0 hP hz hS hL => ?_⟩
    have w := g.2.2 H locs ls hn0 hs0 hP hz hS hL
    simp only [zck, decide_eq_true_eq] at hc
    obtain ⟨rfl, rfl⟩ := hc
    rw [hp1] at w
    exact lv_i2c hx hb hd rfl w
  | dup =>
    simp only [zexec] at h
    split at h
    · obtain ⟨hv, h⟩ := zif_some h
      have g := ih _ h
      refine ⟨g.1, g.2.1, fun H locs ls hn0 hs0 hP hz hS hL => ?_⟩
      have w := g.2.2 H locs ls hn0 hs0 hP hz hS hL
      simp only [zck, decide_eq_true_eq] at hc
      obtain ⟨rfl, rfl⟩ := hc
      rw [hp1] at w
      exact lv_dup hx hb hd (by rw [zav_cat]; exact hv) w
    · cases h
  | dup2 =>
    simp only [zexec] at h
    split at h
    · obtain ⟨hv, h⟩ := zif_some h
      obtain ⟨hv2, h⟩ := zif_some h
      have g := ih _ h
      refine ⟨g.1, g.2.1, fun H locs ls hn0 hs0 hP hz hS hL => ?_⟩
      have w := g.2.2 H locs ls hn0 hs0 hP hz hS hL
      simp only [zck, decide_eq_true_eq] at hc
      obtain ⟨rfl, rfl⟩ := hc
      rw [hp1] at w
      exact lv_dup2_11 hx hb hd (by rw [zav_cat]; exact hv) (by rw [zav_cat]; exact hv2) w
    · cases h
  | pop =>
    simp only [zexec] at h
    have hh := zr1_some h
    clear h
    obtain ⟨a, r, rfl, h⟩ := hh
    obtain ⟨hr, h⟩ := zif_some h
    have g := ih _ h
    refine ⟨g.1, g.2.1, fun H locs ls hn0 hs0 hP hz hS hL => ?_⟩
    have w := g.2.2 H locs ls hn0 hs0 hP hz hS hL
    simp only [zck, Bool.and_eq_true, decide_eq_true_eq] at hc
    obtain ⟨⟨⟨⟨rfl, rfl⟩, hw⟩, hw2⟩, hw3⟩ := hc
    rw [hp1] at w
    refine W.objInit hx hb hown (hts _ (zw_in hw)) (hts _ hw2) (hts _ hw3) rfl (hL.1.trans hml.symm) rfl hd (by omega) ?_ w
    have h1 := zcat_map h0 sp r
    show 2 * 0 + ((r.map (zav h0 sp)).map fun v => v.category).sum + 12 ≤ R.locals
    rw [h1]
    omega
  | goto t =>
    simp only [zexec] at h
    have g := ih _ h
    refine ⟨g.1, g.2.1, fun H locs ls hn0 hs0 hP hz hS hL => ?_⟩
    have w := g.2.2 H locs ls hn0 hs0 hP hz hS hL
    simp only [zck] at hc
    split at hc
    · simp only [decide_eq_true_eq] at hc
      obtain ⟨rfl, ht⟩ := hc
      exact lv_goto hx hb hd ht w
    · cases hc
  | if_icmp cn t =>
    cases cn
    · simp only [zexec] at h
      have hh := z2_some h
      clear h
      obtain ⟨xa, yb, r, rfl, h⟩ := hh
      simp only [zck] at hc
      split at hc
      · simp only [decide_eq_true_eq] at hc
        obtain ⟨rfl, rfl, ht⟩ := hc
        by_cases hq : xa = yb
        · rw [if_pos hq] at h
          have g := ih _ h
          refine ⟨g.1, g.2.1, fun H locs ls hn0 hs0 hP hz hS hL => ?_⟩
          have w := g.2.2 H locs ls hn0 hs0 hP hz hS hL
          exact lv_icmp_eq hx hb hd ht (fun _ => w) (fun q => absurd hq q)
        · rw [if_neg hq] at h
          have g := ih _ h
          refine ⟨g.1, g.2.1, fun H locs ls hn0 hs0 hP hz hS hL => ?_⟩
          have w := g.2.2 H locs ls hn0 hs0 hP hz hS hL
          rw [hp1] at w
          exact lv_icmp_eq hx hb hd ht (fun q => absurd q hq) (fun _ => w)
      · cases hc
    · simp only [zexec] at h
      have hh := z2_some h
      clear h
      obtain ⟨xa, yb, r, rfl, h⟩ := hh
      simp only [zck] at hc
      split at hc
      · simp only [decide_eq_true_eq] at hc
        obtain ⟨rfl, rfl, ht⟩ := hc
        by_cases hq : ¬ xa = yb
        · rw [if_pos hq] at h
          have g := ih _ h
          refine ⟨g.1, g.2.1, fun H locs ls hn0 hs0 hP hz hS hL => ?_⟩
          have w := g.2.2 H locs ls hn0 hs0 hP hz hS hL
          exact lv_icmp_ne hx hb hd ht (fun _ => w) (fun q => absurd q hq)
        · rw [if_neg hq] at h
          have g := ih _ h
          refine ⟨g.1, g.2.1, fun H locs ls hn0 hs0 hP hz hS hL => ?_⟩
          have w := g.2.2 H locs ls hn0 hs0 hP hz hS hL
          rw [hp1] at w
          exact lv_icmp_ne hx hb hd ht (fun q => absurd q hq) (fun _ => w)
      · cases hc
    · simp only [zexec] at h
      have hh := z2_some h
      clear h
      obtain ⟨xa, yb, r, rfl, h⟩ := hh
      simp only [zck] at hc
      split at hc
      · simp only [decide_eq_true_eq] at hc
        obtain ⟨rfl, rfl, ht⟩ := hc
        by_cases hq : xa < yb
        · rw [if_pos hq] at h
          have g := ih _ h
          refine ⟨g.1, g.2.1, fun H locs ls hn0 hs0 hP hz hS hL => ?_⟩
          have w := g.2.2 H locs ls hn0 hs0 hP hz hS hL
          exact lv_icmp_lt hx hb hd ht (fun _ => w) (fun q => absurd hq q)
        · rw [if_neg hq] at h
          have g := ih _ h
          refine ⟨g.1, g.2.1, fun H locs ls hn0 hs0 hP hz hS hL => ?_⟩
          have w := g.2.2 H locs ls hn0 hs0 hP hz hS hL
          rw [hp1] at w
          exact lv_icmp_lt hx hb hd ht (fun q => absurd q hq) (fun _ => w)
      · cases hc
    · simp only [zexec] at h
      have hh := z2_some h
      clear h
      obtain ⟨xa, yb, r, rfl, h⟩ := hh
      simp only [zck] at hc
      split at hc
      · simp only [decide_eq_true_eq] at hc
        obtain ⟨rfl, rfl, ht⟩ := hc
        by_cases hq : yb ≤ xa
        · rw [if_pos hq] at h
          have g := ih _ h
          refine ⟨g.1, g.2.1, fun H locs ls hn0 hs0 hP hz hS hL => ?_⟩
          have w := g.2.2 H locs ls hn0 hs0 hP hz hS hL
          exact lv_icmp_ge hx hb hd ht (fun _ => w) (fun q => absurd hq q)
        · rw [if_neg hq] at h
          have g := ih _ h
          refine ⟨g.1, g.2.1, fun H locs ls hn0 hs0 hP hz hS hL => ?_⟩
          have w := g.2.2 H locs ls hn0 hs0 hP hz hS hL
          rw [hp1] at w
          exact lv_icmp_ge hx hb hd ht (fun q => absurd q hq) (fun _ => w)
      · cases hc
    · simp only [zexec] at h
      have hh := z2_some h
      clear h
      obtain ⟨xa, yb, r, rfl, h⟩ := hh
      simp only [zck] at hc
      split at hc
      · simp only [decide_eq_true_eq] at hc
        obtain ⟨rfl, rfl, ht⟩ := hc
        by_cases hq : yb < xa
        · rw [if_pos hq] at h
          have g := ih _ h
          refine ⟨g.1, g.2.1, fun H locs ls hn0 hs0 hP hz hS hL => ?_⟩
          have w := g.2.2 H locs ls hn0 hs0 hP hz hS hL
          exact lv_icmp_gt hx hb hd ht (fun _ => w) (fun q => absurd hq q)
        · rw [if_neg hq] at h
          have g := ih _ h
          refine ⟨g.1, g.2.1, fun H locs ls hn0 hs0 hP hz hS hL => ?_⟩
          have w := g.2.2 H locs ls hn0 hs0 hP hz hS hL
          rw [hp1] at w
          exact lv_icmp_gt hx hb hd ht (fun q => absurd q hq) (fun _ => w)
      · cases hc
    · simp only [zexec] at h
      have hh := z2_some h
      clear h
      obtain ⟨xa, yb, r, rfl, h⟩ := hh
      simp only [zck] at hc
      split at hc
      · simp only [decide_eq_true_eq] at hc
        obtain ⟨rfl, rfl, ht⟩ := hc
        by_cases hq : xa ≤ yb
        · rw [if_pos hq] at h
          have g := ih _ h
          refine ⟨g.1, g.2.1, fun H locs ls hn0 hs0 hP hz hS hL => ?_⟩
          have w := g.2.2 H locs ls hn0 hs0 hP hz hS hL
          exact lv_icmp_le hx hb hd ht (fun _ => w) (fun q => absurd hq q)
        · rw [if_neg hq] at h
          have g := ih _ h
          refine ⟨g.1, g.2.1, fun H locs ls hn0 hs0 hP hz hS hL => ?_⟩
          have w := g.2.2 H locs ls hn0 hs0 hP hz hS hL
          rw [hp1] at w
          exact lv_icmp_le hx hb hd ht (fun q => absurd q hq) (fun _ => w)
      · cases hc
  | ifCond cn t =>
    cases cn
    · simp only [zexec] at h
      have hh := z1_some h
      clear h
      obtain ⟨xa, r, rfl, h⟩ := hh
      simp only [zck] at hc
      split at hc
      · simp only [decide_eq_true_eq] at hc
        obtain ⟨rfl, rfl, ht⟩ := hc
        by_cases hq : xa = 0
        · rw [if_pos hq] at h
          have g := ih _ h
          refine ⟨g.1, g.2.1, fun H locs ls hn0 hs0 hP hz hS hL => ?_⟩
          have w := g.2.2 H locs ls hn0 hs0 hP hz hS hL
          exact lv_if_eq hx hb hd ht (fun _ => w) (fun q => absurd hq q)
        · rw [if_neg hq] at h
          have g := ih _ h
          refine ⟨g.1, g.2.1, fun H locs ls hn0 hs0 hP hz hS hL => ?_⟩
          have w := g.2.2 H locs ls hn0 hs0 hP hz hS hL
          rw [hp1] at w
          exact lv_if_eq hx hb hd ht (fun q => absurd q hq) (fun _ => w)
      · cases hc
    · simp only [zexec] at h
      have hh := z1_some h
      clear h
      obtain ⟨xa, r, rfl, h⟩ := hh
      simp only [zck] at hc
      split at hc
      · simp only [decide_eq_true_eq] at hc
        obtain ⟨rfl, rfl, ht⟩ := hc
        by_cases hq : ¬ xa = 0
        · rw [if_pos hq] at h
          have g := ih _ h
          refine ⟨g.1, g.2.1, fun H locs ls hn0 hs0 hP hz hS hL => ?_⟩
          have w := g.2.2 H locs ls hn0 hs0 hP hz hS hL
          exact lv_if_ne hx hb hd ht (fun _ => w) (fun q => absurd q hq)
        · rw [if_neg hq] at h
          have g := ih _ h
          refine ⟨g.1, g.2.1, fun H locs ls hn0 hs0 hP hz hS hL => ?_⟩
          have w := g.2.2 H locs ls hn0 hs0 hP hz hS hL
          rw [hp1] at w
          exact lv_if_ne hx hb hd ht (fun q => absurd q hq) (fun _ => w)
      · cases hc
    · simp only [zexec] at h
      have hh := z1_some h
      clear h
      obtain ⟨xa, r, rfl, h⟩ := hh
      simp only [zck] at hc
      split at hc
      · simp only [decide_eq_true_eq] at hc
        obtain ⟨rfl, rfl, ht⟩ := hc
        by_cases hq : xa < 0
        · rw [if_pos hq] at h
          have g := ih _ h
          refine ⟨g.1, g.2.1, fun H locs ls hn0 hs0 hP hz hS hL => ?_⟩
          have w := g.2.2 H locs ls hn0 hs0 hP hz hS hL
          exact lv_if_lt hx hb hd ht (fun _ => w) (fun q => absurd hq q)
        · rw [if_neg hq] at h
          have g := ih _ h
          refine ⟨g.1, g.2.1, fun H locs ls hn0 hs0 hP hz hS hL => ?_⟩
          have w := g.2.2 H locs ls hn0 hs0 hP hz hS hL
          rw [hp1] at w
          exact lv_if_lt hx hb hd ht (fun q => absurd q hq) (fun _ => w)
      · cases hc
    · simp only [zexec] at h
      have hh := z1_some h
      clear h
      obtain ⟨xa, r, rfl, h⟩ := hh
      simp only [zck] at hc
      split at hc
      · simp only [decide_eq_true_eq] at hc
        obtain ⟨rfl, rfl, ht⟩ := hc
        by_cases hq : 0 ≤ xa
        · rw [if_pos hq] at h
          have g := ih _ h
          refine ⟨g.1, g.2.1, fun H locs ls hn0 hs0 hP hz hS hL => ?_⟩
          have w := g.2.2 H locs ls hn0 hs0 hP hz hS hL
          exact lv_if_ge hx hb hd ht (fun _ => w) (fun q => absurd hq q)
        · rw [if_neg hq] at h
          have g := ih _ h
          refine ⟨g.1, g.2.1, fun H locs ls hn0 hs0 hP hz hS hL => ?_⟩
          have w := g.2.2 H locs ls hn0 hs0 hP hz hS hL
          rw [hp1] at w
          exact lv_if_ge hx hb hd ht (fun q => absurd q hq) (fun _ => w)
      · cases hc
    · simp only [zexec] at h
      have hh := z1_some h
      clear h
      obtain ⟨xa, r, rfl, h⟩ := hh
      simp only [zck] at hc
      split at hc
      · simp only [decide_eq_true_eq] at hc
        obtain ⟨rfl, rfl, ht⟩ := hc
        by_cases hq : 0 < xa
        · rw [if_pos hq] at h
          have g := ih _ h
          refine ⟨g.1, g.2.1, fun H locs ls hn0 hs0 hP hz hS hL => ?_⟩
          have w := g.2.2 H locs ls hn0 hs0 hP hz hS hL
          exact lv_if_gt hx hb hd ht (fun _ => w) (fun q => absurd hq q)
        · rw [if_neg hq] at h
          have g := ih _ h
          refine ⟨g.1, g.2.1, fun H locs ls hn0 hs0 hP hz hS hL => ?_⟩
          have w := g.2.2 H locs ls hn0 hs0 hP hz hS hL
          rw [hp1] at w
          exact lv_if_gt hx hb hd ht (fun q => absurd q hq) (fun _ => w)
      · cases hc
    · simp only [zexec] at h
      have hh := z1_some h
      clear h
      obtain ⟨xa, r, rfl, h⟩ := hh
      simp only [zck] at hc
      split at hc
      · simp only [decide_eq_true_eq] at hc
        obtain ⟨rfl, rfl, ht⟩ := hc
        by_cases hq : xa ≤ 0
        · rw [if_pos hq] at h
          have g := ih _ h
          refine ⟨g.1, g.2.1, fun H locs ls hn0 hs0 hP hz hS hL => ?_⟩
          have w := g.2.2 H locs ls hn0 hs0 hP hz hS hL
          exact lv_if_le hx hb hd ht (fun _ => w) (fun q => absurd hq q)
        · rw [if_neg hq] at h
          have g := ih _ h
          refine ⟨g.1, g.2.1, fun H locs ls hn0 hs0 hP hz hS hL => ?_⟩
          have w := g.2.2 H locs ls hn0 hs0 hP hz hS hL
          rw [hp1] at w
          exact lv_if_le hx hb hd ht (fun q => absurd q hq) (fun _ => w)
      · cases hc
  | ifnull t =>
    simp only [zexec] at h
    simp only [zck] at hc
    split at hc
    · simp only [decide_eq_true_eq] at hc
      obtain ⟨rfl, ht⟩ := hc
      split at h
      · have g := ih _ h
        refine ⟨g.1, g.2.1, fun H locs ls hn0 hs0 hP hz hS hL => ?_⟩
        have w := g.2.2 H locs ls hn0 hs0 hP hz hS hL
        rw [hp1] at w
        exact lv_ifnull hx hb hd w
      · have g := ih _ h
        refine ⟨g.1, g.2.1, fun H locs ls hn0 hs0 hP hz hS hL => ?_⟩
        have w := g.2.2 H locs ls hn0 hs0 hP hz hS hL
        exact lv_ifnullN hx hb hd ht w
      · cases h
    · cases hc
  | ifnonnull t =>
    simp only [zexec] at h
    simp only [zck] at hc
    split at hc
    · simp only [decide_eq_true_eq] at hc
      obtain ⟨rfl, ht⟩ := hc
      split at h
      · have g := ih _ h
        refine ⟨g.1, g.2.1, fun H locs ls hn0 hs0 hP hz hS hL => ?_⟩
        have w := g.2.2 H locs ls hn0 hs0 hP hz hS hL
        exact lv_ifnonnull hx hb hd ht w
      · have g := ih _ h
        refine ⟨g.1, g.2.1, fun H locs ls hn0 hs0 hP hz hS hL => ?_⟩
        have w := g.2.2 H locs ls hn0 hs0 hP hz hS hL
        rw [hp1] at w
        exact lv_ifnonnullN hx hb hd w
      · cases h
    · cases hc
  | tableswitch df lo hi os =>
    simp only [zexec] at h
    have hh := z1_some h
    clear h
    obtain ⟨v, r, rfl, h⟩ := hh
    simp only [zck] at hc
    split at hc
    · rename_i d' lo' hi' o'
      simp only [Bool.and_eq_true, decide_eq_true_eq] at hc
      obtain ⟨⟨rfl, rfl, ht⟩, hal⟩ := hc
      by_cases hq : v.toInt < lo' ∨ hi' < v.toInt
      · rw [if_pos hq] at h
        have g := ih _ h
        refine ⟨g.1, g.2.1, fun H locs ls hn0 hs0 hP hz hS hL => ?_⟩
        have w := g.2.2 H locs ls hn0 hs0 hP hz hS hL
        exact lv_tableOut hx hb hd hq ht w
      · rw [if_neg hq] at h
        split at h
        · rename_i t hot
          obtain ⟨a, ha, hpa⟩ := zall2_at hal (i := (v.toInt - lo').toNat) (by rw [Array.getElem?_toList]; exact hot)
          rw [Array.getElem?_toList] at ha
          simp only [decide_eq_true_eq] at hpa
          have g := ih _ h
          refine ⟨g.1, g.2.1, fun H locs ls hn0 hs0 hP hz hS hL => ?_⟩
          have w := g.2.2 H locs ls hn0 hs0 hP hz hS hL
          exact lv_tableIn hx hb hd (fun q => hq (Or.inl q)) (fun q => hq (Or.inr q)) ha hpa w
        · cases h
    · cases hc
  | lookupswitch df ps =>
    simp only [zexec] at h
    have hh := z1_some h
    clear h
    obtain ⟨v, r, rfl, h⟩ := hh
    simp only [zck] at hc
    split at hc
    · rename_i d' ps'
      simp only [Bool.and_eq_true, decide_eq_true_eq] at hc
      obtain ⟨⟨ht, hso⟩, hal⟩ := hc
      have g := ih _ h
      refine ⟨g.1, g.2.1, fun H locs ls hn0 hs0 hP hz hS hL => ?_⟩
      have w := g.2.2 H locs ls hn0 hs0 hP hz hS hL
      exact lv_lookup hx hb hd hso rfl (zlook ht v.toInt hal) w
    · cases hc
  | getfield q =>
    simp only [zexec] at h
    have hh := zr1_some h
    clear h
    obtain ⟨a, r, rfl, h⟩ := hh
    obtain ⟨hza, h⟩ := zif_some h
    have hta := za_of hza
    simp only [zck] at hc
    split at hc
    · rename_i C T N hq
      simp only [Bool.and_eq_true, decide_eq_true_eq] at hc
      obtain ⟨⟨rfl, rfl, hj, hfr, hC⟩, hw⟩ := hc
      have g := ih _ h
      refine ⟨g.1, g.2.1, fun H locs ls hn0 hs0 hP hz hS hL => ?_⟩
      have w := g.2.2 H locs ls hn0 hs0 hP hz hS hL
      rw [hp1] at w
      have ha : a < zn M := hP.2.1 a (by rw [hta]; have := zcls_lt hq; omega)
      refine zr_get hx hb hts hown hKK hq hj hC (zw_in hw) hP ha hta hd ?_
      rw [show zfv h0 sp M a (q / 100) (q % 100) = .int (zI M a (q % 100)) by simp [zfv, hfr]]
      exact w
    · cases hc
  | getstatic q =>
    simp only [zexec] at h
    have hh := zr1_some h
    clear h
    obtain ⟨a, r, rfl, h⟩ := hh
    obtain ⟨hza, h⟩ := zif_some h
    have hta := za_of hza
    simp only [zck] at hc
    split at hc
    · rename_i C T N hq
      simp only [Bool.and_eq_true, decide_eq_true_eq] at hc
      obtain ⟨⟨rfl, rfl, hj, hfr, hC⟩, hw⟩ := hc
      have g := ih _ h
      refine ⟨g.1, g.2.1, fun H locs ls hn0 hs0 hP hz hS hL => ?_⟩
      have w := g.2.2 H locs ls hn0 hs0 hP hz hS hL
      rw [hp1] at w
      have ha : a < zn M := hP.2.1 a (by rw [hta]; have := zcls_lt hq; omega)
      refine zr_get hx hb hts hown hKK hq hj hC (zw_in hw) hP ha hta hd ?_
      rw [show zfv h0 sp M a (q / 100) (q % 100) = zav h0 sp (va_rf (zR M a (q % 100))) by simp only [zfv, hfr, if_true]; cases zR M a (q % 100) <;> rfl]
      exact w
    · cases hc
  | putfield q =>
    simp only [zexec] at h
    split at h
    · rename_i x a r
      obtain ⟨hza, h⟩ := zif_some h
      have hta := za_of hza
      simp only [zck] at hc
      split at hc
      · rename_i C T N hq
        simp only [Bool.and_eq_true, decide_eq_true_eq] at hc
        simp only [Bool.or_eq_true, Bool.and_eq_true, decide_eq_true_eq] at hc
        obtain ⟨⟨⟨rfl, rfl, hj, hty, hC⟩, hfin⟩, hw⟩ := hc
        have g := ih _ h
        refine ⟨g.1, g.2.1, fun H locs ls hn0 hs0 hP hz hS hL => ?_⟩
        have w := fun H1 locs1 a1 a2 a3 => g.2.2 H1 locs1 ls hn0 hs0 a1 a2 a3 hL
        rw [hp1] at w
        have hfin' : (T (q % 100)).2.2.2 = false ∨ (meth.name = "<init>" ∧ C = own) := hfin.imp id (fun h => ⟨hini h.1, h.2⟩)
        have ha : a < zn M := hP.2.1 a (by rw [hta]; have := zcls_lt hq; omega)
        refine zr_put (v := (.int x)) hx hb hts hown hKK hq hj hC (zw_in hw) hfin' (by rw [hty]; rfl) (by rw [hty]; rfl) hP hS ha hta hd fun H1 locs1 hob hz1 oq hS1 => ?_
        refine w H1 locs1 (zP_at (a := a) hP rfl (fun _ => rfl) (fun _ => rfl) (fun k hk => zput_I M a _ _ hk) (fun k _ => rfl) oq ⟨fun qq hqq => ?_, fun h1 h2 => ?_⟩) (by rw [hz1]; exact hz) hS1
        · have e1 : qq = (C, T, N) := by
            have : zt (zput M a (q % 100) x) a = q / 100 := hta
            rw [this] at hqq
            exact Option.some.inj (hqq.symm.trans hq)
          subst e1
          rw [show zt (zput M a (q % 100) x) a = q / 100 from hta]
          refine hob _ fun i hi => ?_
          by_cases hij : i = q % 100
          · subst hij
            simp [updV, zfv, zput_Is, upd, zFr, hty]
          · simp [updV, zfv, zput_Is, upd, hij, zput_R]
        · exfalso
          have h3 : zt (zput M a (q % 100) x) a = q / 100 := hta
          have h4 := zcls_lt hq
          dsimp only at h1
          omega
      · cases hc
    · cases h
  | checkcast q =>
    simp only [zexec] at h
    split at h
    · rename_i x a r
      obtain ⟨hza, h⟩ := zif_some h
      obtain ⟨hb01, h⟩ := zif_some h
      have hta := za_of hza
      simp only [zck] at hc
      split at hc
      · rename_i C T N hq
        simp only [Bool.and_eq_true, decide_eq_true_eq] at hc
        simp only [Bool.or_eq_true, Bool.and_eq_true, decide_eq_true_eq] at hc
        obtain ⟨⟨⟨rfl, rfl, hj, hty, hC⟩, hfin⟩, hw⟩ := hc
        have g := ih _ h
        refine ⟨g.1, g.2.1, fun H locs ls hn0 hs0 hP hz hS hL => ?_⟩
        have w := fun H1 locs1 a1 a2 a3 => g.2.2 H1 locs1 ls hn0 hs0 a1 a2 a3 hL
        rw [hp1] at w
        have hfin' : (T (q % 100)).2.2.2 = false ∨ (meth.name = "<init>" ∧ C = own) := hfin.imp id (fun h => ⟨hini h.1, h.2⟩)
        have ha : a < zn M := hP.2.1 a (by rw [hta]; have := zcls_lt hq; omega)
        refine zr_put (v := (.int x)) hx hb hts hown hKK hq hj hC (zw_in hw) hfin' (by rw [hty]; rcases hb01 with rfl | rfl <;> rfl) (by rw [hty]; rcases hb01 with rfl | rfl <;> rfl) hP hS ha hta hd fun H1 locs1 hob hz1 oq hS1 => ?_
        refine w H1 locs1 (zP_at (a := a) hP rfl (fun _ => rfl) (fun _ => rfl) (fun k hk => zput_I M a _ _ hk) (fun k _ => rfl) oq ⟨fun qq hqq => ?_, fun h1 h2 => ?_⟩) (by rw [hz1]; exact hz) hS1
        · have e1 : qq = (C, T, N) := by
            have : zt (zput M a (q % 100) x) a = q / 100 := hta
            rw [this] at hqq
            exact Option.some.inj (hqq.symm.trans hq)
          subst e1
          rw [show zt (zput M a (q % 100) x) a = q / 100 from hta]
          refine hob _ fun i hi => ?_
          by_cases hij : i = q % 100
          · subst hij
            simp [updV, zfv, zput_Is, upd, zFr, hty]
          · simp [updV, zfv, zput_Is, upd, hij, zput_R]
        · exfalso
          have h3 : zt (zput M a (q % 100) x) a = q / 100 := hta
          have h4 := zcls_lt hq
          dsimp only at h1
          omega
      · cases hc
    · cases h
  | putstatic q =>
    simp only [zexec] at h
    split at h
    · rename_i b a r
      obtain ⟨hza, h⟩ := zif_some h
      have hta := za_of hza
      simp only [zck] at hc
      split at hc
      · rename_i C T N hq
        simp only [Bool.and_eq_true, decide_eq_true_eq] at hc
        simp only [Bool.or_eq_true, Bool.and_eq_true, decide_eq_true_eq] at hc
        obtain ⟨⟨⟨rfl, rfl, hj, hfr, hC⟩, hfin⟩, hw⟩ := hc
        have g := ih _ h
        refine ⟨g.1, g.2.1, fun H locs ls hn0 hs0 hP hz hS hL => ?_⟩
        have w := fun H1 locs1 a1 a2 a3 => g.2.2 H1 locs1 ls hn0 hs0 a1 a2 a3 hL
        rw [hp1] at w
        have hfin' : (T (q % 100)).2.2.2 = false ∨ (meth.name = "<init>" ∧ C = own) := hfin.imp id (fun h => ⟨hini h.1, h.2⟩)
        have ha : a < zn M := hP.2.1 a (by rw [hta]; have := zcls_lt hq; omega)
        refine zr_put (v := (.ref (zad h0 sp b))) hx hb hts hown hKK hq hj hC (zw_in hw) hfin' (zfr_narrow hfr _) (zfr_fits hfr _) hP hS ha hta hd fun H1 locs1 hob hz1 oq hS1 => ?_
        refine w H1 locs1 (zP_at (a := a) hP rfl (fun _ => rfl) (fun _ => rfl) (fun k _ => rfl) (fun k hk => zputR_R M a _ _ hk) oq ⟨fun qq hqq => ?_, fun h1 h2 => ?_⟩) (by rw [hz1]; exact hz) hS1
        · have e1 : qq = (C, T, N) := by
            have : zt (zputR M a (q % 100) (some b)) a = q / 100 := hta
            rw [this] at hqq
            exact Option.some.inj (hqq.symm.trans hq)
          subst e1
          rw [show zt (zputR M a (q % 100) (some b)) a = q / 100 from hta]
          refine hob _ fun i hi => ?_
          by_cases hij : i = q % 100
          · subst hij
            simp [updV, zfv, zputR_Rs, va_up, hfr, va_rf]
          · simp [updV, zfv, zputR_Rs, va_up, hij, zputR_I]
        · exfalso
          have h3 : zt (zputR M a (q % 100) (some b)) a = q / 100 := hta
          have h4 := zcls_lt hq
          dsimp only at h1
          omega
      · cases hc
    · cases h
  | iaload =>
    simp only [zexec] at h
    have hh := zir_some h
    clear h
    obtain ⟨a, i, r, rfl, h⟩ := hh
    by_cases hsc : a = 1000000
    · rw [if_pos hsc] at h
      obtain ⟨hzb, h⟩ := zif_some h
      have hi := zb_of hzb
      subst hsc
      have hXX : X' = X := by
        rcases hX with q | q
        · exact absurd (Or.inr (by rw [q]; exact Nat.zero_le _)) hi
        · exact q
      subst hXX
      have g := ih _ h
      refine ⟨g.1, g.2.1, fun H locs ls hn0 hs0 hP hz hS hL => ?_⟩
      have w := g.2.2 H locs ls hn0 hs0 hP hz hS hL
      simp only [zck, decide_eq_true_eq] at hc
      obtain ⟨rfl, rfl⟩ := hc
      rw [hp1] at w
      obtain ⟨-, -, hXs, hsp, -⟩ := hEv
      obtain ⟨scr, g1, -⟩ := id hXs
      exact va_sld hx hb hXs (Array.getElem?_eq_some_iff.mp g1).1 (Nat.not_le.mpr hsp) hS hi hd w
    · rw [if_neg hsc] at h
      obtain ⟨hza, h⟩ := zif_some h
      obtain ⟨hzb, h⟩ := zif_some h
      have hta := za_of hza
      have hi := zb_of hzb
      have g := ih _ h
      refine ⟨g.1, g.2.1, fun H locs ls hn0 hs0 hP hz hS hL => ?_⟩
      have w := g.2.2 H locs ls hn0 hs0 hP hz hS hL
      simp only [zck, decide_eq_true_eq] at hc
      obtain ⟨rfl, rfl⟩ := hc
      rw [hp1] at w
      have ha : a < zn M := hP.2.1 a (by rw [hta]; decide)
      have hcell := zP_cell hP ha hta (by decide) (by decide)
      have hlt : i.toNatClampNeg < zl M a := Nat.not_le.mp fun q => hi (Or.inr q)
      rw [show ((.int i :: .ref a :: r : List Value).map (zav h0 sp)) = .int i :: .ref (h0 + a) :: r.map (zav h0 sp) by simp [zav, zad_lt (zP_lt hP ha)]]
      exact W.iald hx hb hcell ((hKK.2 0 _ rfl).1 _ _) (fun q => by cases q) (by rw [arrV_size]; exact hi) (by rw [arrV_read _ _ hlt]; rfl) rfl rfl hd w
  | baload =>
    simp only [zexec] at h
    have hh := zir_some h
    clear h
    obtain ⟨a, i, r, rfl, h⟩ := hh
    by_cases hsc : a = 1000002
    · rw [if_pos hsc] at h
      obtain ⟨hzb, h⟩ := zif_some h
      have hi := zb_of hzb
      subst hsc
      have g := ih _ h
      refine ⟨g.1, g.2.1, fun H locs ls hn0 hs0 hP hz hS hL => ?_⟩
      have w := g.2.2 H locs ls hn0 hs0 hP hz hS hL
      simp only [zck, decide_eq_true_eq] at hc
      obtain ⟨rfl, rfl⟩ := hc
      rw [hp1] at w
      obtain ⟨-, -, -, -, hSt, -⟩ := hEv
      exact va_tb hx hb (hSt.1 0 (by decide)).2.2.2 hS hi rfl hd w
    · rw [if_neg hsc] at h
      by_cases hza : za M a 101 = true
      · rw [if_pos hza] at h
        obtain ⟨hzb, h⟩ := zif_some h
        have hta := za_of hza
        have hi := zb_of hzb
        have g := ih _ h
        refine ⟨g.1, g.2.1, fun H locs ls hn0 hs0 hP hz hS hL => ?_⟩
        have w := g.2.2 H locs ls hn0 hs0 hP hz hS hL
        simp only [zck, decide_eq_true_eq] at hc
        obtain ⟨rfl, rfl⟩ := hc
        rw [hp1] at w
        have ha : a < zn M := hP.2.1 a (by rw [hta]; decide)
        have hcell := zP_cell hP ha hta (by decide) (by decide)
        have hlt : i.toNatClampNeg < zl M a := Nat.not_le.mp fun q => hi (Or.inr q)
        rw [show ((.int i :: .ref a :: r : List Value).map (zav h0 sp)) = .int i :: .ref (h0 + a) :: r.map (zav h0 sp) by simp [zav, zad_lt (zP_lt hP ha)]]
        exact W.zald hx hb hcell ((hKK.2 1 _ rfl).1 _ _) (fun q => by cases q) (by rw [arrV_size]; exact hi) (by rw [arrV_read _ _ hlt]; rfl) rfl rfl hd w
      · rw [if_neg hza] at h
        obtain ⟨hza, h⟩ := zif_some h
        obtain ⟨hzb, h⟩ := zif_some h
        have hta := za_of hza
        have hi := zb_of hzb
        have g := ih _ h
        refine ⟨g.1, g.2.1, fun H locs ls hn0 hs0 hP hz hS hL => ?_⟩
        have w := g.2.2 H locs ls hn0 hs0 hP hz hS hL
        simp only [zck, decide_eq_true_eq] at hc
        obtain ⟨rfl, rfl⟩ := hc
        rw [hp1] at w
        have ha : a < zn M := hP.2.1 a (by rw [hta]; decide)
        have hcell := zP_cell hP ha hta (by decide) (by decide)
        have hlt : i.toNatClampNeg < zl M a := Nat.not_le.mp fun q => hi (Or.inr q)
        rw [show ((.int i :: .ref a :: r : List Value).map (zav h0 sp)) = .int i :: .ref (h0 + a) :: r.map (zav h0 sp) by simp [zav, zad_lt (zP_lt hP ha)]]
        exact W.bald hx hb hcell ((hKK.2 2 _ rfl).1 _ _) (fun q => by cases q) (by rw [arrV_size]; exact hi) (by rw [arrV_read _ _ hlt]; rfl) rfl rfl hd w
  | aaload =>
    simp only [zexec] at h
    have hh := zir_some h
    clear h
    obtain ⟨a, i, r, rfl, h⟩ := hh
    obtain ⟨hza, h⟩ := zif_some h
    obtain ⟨hzb, h⟩ := zif_some h
    have hta := za_of hza
    have hi := zb_of hzb
    have g := ih _ h
    refine ⟨g.1, g.2.1, fun H locs ls hn0 hs0 hP hz hS hL => ?_⟩
    have w := g.2.2 H locs ls hn0 hs0 hP hz hS hL
    simp only [zck, decide_eq_true_eq] at hc
    obtain ⟨rfl, rfl⟩ := hc
    rw [hp1] at w
    have ha : a < zn M := hP.2.1 a (by rw [hta]; decide)
    have hcell := zP_cell hP ha hta (by decide) (by decide)
    have hlt : i.toNatClampNeg < zl M a := Nat.not_le.mp fun q => hi (Or.inr q)
    rw [show ((.int i :: .ref a :: r : List Value).map (zav h0 sp)) = .int i :: .ref (h0 + a) :: r.map (zav h0 sp) by simp [zav, zad_lt (zP_lt hP ha)]]
    exact W.aald hx hb hcell ((hKK.2 3 _ rfl).1 _ _) rfl (fun q => by cases q) (by rw [arrV_size]; exact hi) (by rw [arrV_read _ _ hlt]; exact congrArg some (show zrow h0 sp M a 103 i.toNatClampNeg = zav h0 sp (va_rf (zR M a i.toNatClampNeg)) by simp only [zrow, if_true]; cases zR M a i.toNatClampNeg <;> rfl)) rfl rfl hd w
  | iastore =>
    simp only [zexec] at h
    have hh := ziir_some h
    clear h
    obtain ⟨a, i, x, r, rfl, h⟩ := hh
    obtain ⟨hza, h⟩ := zif_some h
    obtain ⟨hzb, h⟩ := zif_some h
    have hta := za_of hza
    have hi := zb_of hzb
    have g := ih _ h
    refine ⟨g.1, g.2.1, fun H locs ls hn0 hs0 hP hz hS hL => ?_⟩
    have w := fun H1 locs1 a1 a2 a3 => g.2.2 H1 locs1 ls hn0 hs0 a1 a2 a3 hL
    simp only [zck, decide_eq_true_eq] at hc
    obtain ⟨rfl, rfl⟩ := hc
    rw [hp1] at w
    have ha : a < zn M := hP.2.1 a (by rw [hta]; decide)
    have hcell := zP_cell hP ha hta (by decide) (by decide)
    rw [show ((.int x :: .int i :: .ref a :: r : List Value).map (zav h0 sp)) = .int x :: .int i :: .ref (h0 + a) :: r.map (zav h0 sp) by simp [zav, zad_lt (zP_lt hP ha)]]
    refine W.iast hx hb hcell ((hKK.2 0 _ rfl).1 _ _) (fun q => by cases q) (by rw [arrV_size]; exact hi) rfl rfl hd fun H1 e1 e2 e3 => ?_
    refine w H1 _ (zP_at (a := a) hP rfl (fun _ => rfl) (fun _ => rfl) (fun k hk => zput_I M a _ _ hk) (fun k _ => rfl) e3 ⟨fun qq hqq => ?_, fun h1 h2 => ?_⟩) (by rw [e2]; exact hz) (hS.put e2 e3 (Nat.le_add_right _ _))
    · have h3 : zt (zput M a i.toNatClampNeg x) a = 100 := hta
      have h4 := zcls_lt hqq
      dsimp only at h4
      omega
    · rw [e1, arrV_store]
      rw [show zt (zput M a i.toNatClampNeg x) a = 100 from hta]
      congr 2
      funext q
      by_cases hq : q = i.toNatClampNeg
      · subst hq
        simp [updV, zrow, zput_Is, upd]
      · simp [updV, zrow, zput_Is, upd, hq]
  | bastore =>
    simp only [zexec] at h
    have hh := ziir_some h
    clear h
    obtain ⟨a, i, x, r, rfl, h⟩ := hh
    by_cases hza : za M a 101 = true
    · rw [if_pos hza] at h
      obtain ⟨hzb, h⟩ := zif_some h
      obtain ⟨hb01, h⟩ := zif_some h
      have hnz : narrow .boolean (.int x) = .int x := by rcases hb01 with rfl | rfl <;> rfl
      have hta := za_of hza
      have hi := zb_of hzb
      have g := ih _ h
      refine ⟨g.1, g.2.1, fun H locs ls hn0 hs0 hP hz hS hL => ?_⟩
      have w := fun H1 locs1 a1 a2 a3 => g.2.2 H1 locs1 ls hn0 hs0 a1 a2 a3 hL
      simp only [zck, decide_eq_true_eq] at hc
      obtain ⟨rfl, rfl⟩ := hc
      rw [hp1] at w
      have ha : a < zn M := hP.2.1 a (by rw [hta]; decide)
      have hcell := zP_cell hP ha hta (by decide) (by decide)
      rw [show ((.int x :: .int i :: .ref a :: r : List Value).map (zav h0 sp)) = .int x :: .int i :: .ref (h0 + a) :: r.map (zav h0 sp) by simp [zav, zad_lt (zP_lt hP ha)]]
      refine W.zast hx hb hcell ((hKK.2 1 _ rfl).1 _ _) (fun q => by cases q) (by rw [arrV_size]; exact hi) rfl rfl hd fun H1 e1 e2 e3 => ?_
      refine w H1 _ (zP_at (a := a) hP rfl (fun _ => rfl) (fun _ => rfl) (fun k hk => zput_I M a _ _ hk) (fun k _ => rfl) e3 ⟨fun qq hqq => ?_, fun h1 h2 => ?_⟩) (by rw [e2]; exact hz) (hS.put e2 e3 (Nat.le_add_right _ _))
      · have h3 : zt (zput M a i.toNatClampNeg x) a = 101 := hta
        have h4 := zcls_lt hqq
        dsimp only at h4
        omega
      · rw [e1, arrV_store]
        rw [show zt (zput M a i.toNatClampNeg x) a = 101 from hta]
        congr 2
        funext q
        by_cases hq : q = i.toNatClampNeg
        · subst hq
          simp [updV, zrow, zput_Is, upd, hnz]
        · simp [updV, zrow, zput_Is, upd, hq]
    · rw [if_neg hza] at h
      obtain ⟨hza, h⟩ := zif_some h
      obtain ⟨hzb, h⟩ := zif_some h
      have hta := za_of hza
      have hi := zb_of hzb
      have g := ih _ h
      refine ⟨g.1, g.2.1, fun H locs ls hn0 hs0 hP hz hS hL => ?_⟩
      have w := fun H1 locs1 a1 a2 a3 => g.2.2 H1 locs1 ls hn0 hs0 a1 a2 a3 hL
      simp only [zck, decide_eq_true_eq] at hc
      obtain ⟨rfl, rfl⟩ := hc
      rw [hp1] at w
      have ha : a < zn M := hP.2.1 a (by rw [hta]; decide)
      have hcell := zP_cell hP ha hta (by decide) (by decide)
      rw [show ((.int x :: .int i :: .ref a :: r : List Value).map (zav h0 sp)) = .int x :: .int i :: .ref (h0 + a) :: r.map (zav h0 sp) by simp [zav, zad_lt (zP_lt hP ha)]]
      refine W.bast hx hb hcell ((hKK.2 2 _ rfl).1 _ _) (fun q => by cases q) (by rw [arrV_size]; exact hi) rfl rfl hd fun H1 e1 e2 e3 => ?_
      refine w H1 _ (zP_at (a := a) hP rfl (fun _ => rfl) (fun _ => rfl) (fun k hk => zput_I M a _ _ hk) (fun k _ => rfl) e3 ⟨fun qq hqq => ?_, fun h1 h2 => ?_⟩) (by rw [e2]; exact hz) (hS.put e2 e3 (Nat.le_add_right _ _))
      · have h3 : zt (zput M a i.toNatClampNeg x.toInt8.toInt32) a = 102 := hta
        have h4 := zcls_lt hqq
        dsimp only at h4
        omega
      · rw [e1, arrV_store]
        rw [show zt (zput M a i.toNatClampNeg x.toInt8.toInt32) a = 102 from hta]
        congr 2
        funext q
        by_cases hq : q = i.toNatClampNeg
        · subst hq
          simp [updV, zrow, zput_Is, upd, narrow_byte]
        · simp [updV, zrow, zput_Is, upd, hq]
  | aastore =>
    simp only [zexec] at h
    split at h
    · rename_i v i a r
      obtain ⟨hza, h⟩ := zif_some h
      obtain ⟨hzb, h⟩ := zif_some h
      obtain ⟨hzv, h⟩ := zif_some h
      have hta := za_of hza
      have htv := za_of hzv
      have hi := zb_of hzb
      have g := ih _ h
      refine ⟨g.1, g.2.1, fun H locs ls hn0 hs0 hP hz hS hL => ?_⟩
      have w := fun H1 locs1 a1 a2 a3 => g.2.2 H1 locs1 ls hn0 hs0 a1 a2 a3 hL
      simp only [zck, decide_eq_true_eq] at hc
      obtain ⟨rfl, rfl⟩ := hc
      rw [hp1] at w
      have ha : a < zn M := hP.2.1 a (by rw [hta]; decide)
      have hcell := zP_cell hP ha hta (by decide) (by decide)
      have hv : v < zn M := hP.2.1 v (by rw [htv]; decide)
      have hcv := zP_cell hP hv htv (by decide) (by decide)
      obtain ⟨kA, kI, hkA, hkk, hkI⟩ := hEv.2.1
      rw [show ((.ref v :: .int i :: .ref a :: r : List Value).map (zav h0 sp)) = .ref (h0 + v) :: .int i :: .ref (h0 + a) :: r.map (zav h0 sp) by simp [zav, zad_lt (zP_lt hP ha), zad_lt (zP_lt hP hv)]]
      refine W.aast hx hb hcell (fun q hq => by cases hq) (fun q => by cases q) hkA hkk rfl hkI ⟨fun q => hi (Or.inl q), by rw [arrV_size]; exact Nat.not_le.mp fun q => hi (Or.inr q)⟩ hcv (fun q hq => by cases hq) hkI (va_asg _ _) rfl rfl hd fun H1 e1 e2 e3 => ?_
      refine w H1 _ (zP_at (a := a) hP rfl (fun _ => rfl) (fun _ => rfl) (fun k _ => rfl) (fun k hk => zputR_R M a _ _ hk) e3 ⟨fun qq hqq => ?_, fun h1 h2 => ?_⟩) (by rw [e2]; exact hz) (hS.put e2 e3 (Nat.le_add_right _ _))
      · have h3 : zt (zputR M a i.toNatClampNeg (some v)) a = 103 := hta
        have h4 := zcls_lt hqq
        dsimp only at h4
        omega
      · rw [e1, arrV_store]
        rw [show zt (zputR M a i.toNatClampNeg (some v)) a = 103 from hta]
        congr 2
        funext q
        by_cases hq : q = i.toNatClampNeg
        · subst hq
          simp [updV, zrow, zputR_Rs, va_up, va_rf, zad_lt (zP_lt hP hv)]
        · simp [updV, zrow, zputR_Rs, va_up, hq]
    · cases h
  | arraylength =>
    simp only [zexec] at h
    have hh := zr1_some h
    clear h
    obtain ⟨a, r, rfl, h⟩ := hh
    simp only [zck, decide_eq_true_eq] at hc
    obtain ⟨rfl, rfl⟩ := hc
    by_cases hsc : a = 1000000
    · rw [if_pos hsc] at h
      subst hsc
      obtain ⟨hx1, h⟩ := zif_some h
      have hXX : X' = X := by
        rcases hX with q | q
        · exact absurd q (Nat.pos_iff_ne_zero.mp hx1)
        · exact q
      subst hXX
      have g := ih _ h
      refine ⟨g.1, g.2.1, fun H locs ls hn0 hs0 hP hz hS hL => ?_⟩
      have w := g.2.2 H locs ls hn0 hs0 hP hz hS hL
      rw [hp1] at w
      obtain ⟨-, -, hXs, hsp, -⟩ := hEv
      obtain ⟨scr, g1, -⟩ := id hXs
      exact va_slen hx hb hXs (Array.getElem?_eq_some_iff.mp g1).1 (Nat.not_le.mpr hsp) hS hd w
    · rw [if_neg hsc] at h
      by_cases hsc2 : a = 1000002
      · rw [if_pos hsc2] at h
        subst hsc2
        have g := ih _ h
        refine ⟨g.1, g.2.1, fun H locs ls hn0 hs0 hP hz hS hL => ?_⟩
        have w := g.2.2 H locs ls hn0 hs0 hP hz hS hL
        rw [hp1] at w
        obtain ⟨-, -, -, -, hSt, -⟩ := hEv
        exact va_tlen hx hb (hSt.1 0 (by decide)).2.2.2 hS rfl hd w
      · rw [if_neg hsc2] at h
        obtain ⟨hza, h⟩ := zif_some h
        have hta := za_of hza
        have g := ih _ h
        refine ⟨g.1, g.2.1, fun H locs ls hn0 hs0 hP hz hS hL => ?_⟩
        have w := g.2.2 H locs ls hn0 hs0 hP hz hS hL
        rw [hp1] at w
        have ha : a < zn M := hP.2.1 a (by rw [hta]; decide)
        have hcell := zP_cell hP ha hta (by decide) (by decide)
        rw [show ((.ref a :: r : List Value).map (zav h0 sp)) = .ref (h0 + a) :: r.map (zav h0 sp) by simp [zav, zad_lt (zP_lt hP ha)]]
        exact W.alen (n := Int32.ofNat (zl M a)) hx hb hcell ((hKK.2 0 _ rfl).1 _ _) (by rw [arrV_size] <;> rfl) rfl rfl hd w
  | newarray ty =>
    simp only [zexec] at h
    have hh := z1_some h
    clear h
    obtain ⟨v, r, rfl, h⟩ := hh
    simp only [zck, Bool.and_eq_true, decide_eq_true_eq] at hc
    obtain ⟨⟨rfl, rfl, hty⟩, hw⟩ := hc
    rcases hty with rfl | rfl | rfl
    · obtain ⟨hn, h⟩ := zif_some h
      obtain ⟨hle, h⟩ := zif_some h
      obtain ⟨hm, h⟩ := zif_some h
      have g := ih _ h
      have e9 : zn (znew M 100 v.toNatClampNeg) = zn M + 1 := rfl
      have e8 : zsl (znew M 100 v.toNatClampNeg) = zsl M + v.toNatClampNeg := rfl
      have g1 := g.1
      have g2 := g.2.1
      dsimp only at g1 g2
      rw [show zat .int = 100 from rfl, e9] at g1
      rw [show zat .int = 100 from rfl, e8] at g2
      refine ⟨by omega, by omega, fun H locs ls hn0 hs0 hP hz hS hL => ?_⟩
      have w := fun H1 a1 a2 a3 => g.2.2 H1 locs ls (by show n0 ≤ zn M + 1; omega) (by show s0 ≤ zsl M + _; omega) a1 a2 a3 hL
      rw [hp1] at w
      refine va_newaK hx hb (hts _ (zw_in hw)) rfl hd rfl hn rfl (by show _ * 4 ≤ _; omega) (by omega) (by omega) hz fun H1 cA e1 z1 o1 hAr hNm => ?_
      have hcA : cA = cy 100 := Option.some.inj (hNm.symm.trans (hKK.2 0 _ rfl).2)
      subst hcA
      refine W.cs (cells' := zn (znew M (zat .int) v.toNatClampNeg) - n0) (slots' := zsl (znew M (zat .int) v.toNatClampNeg) - s0) (by show _ = zn M + 1 - n0; omega) (by show _ = zsl M + v.toNatClampNeg - s0; omega) ?_
      have w2 := w H1 (zP_new hm hP o1 ⟨fun qq hqq => ?_, fun h1 h2 => ?_⟩) (by rw [z1]; show _ = h0 + (zn M + 1); omega) ⟨Nat.le_trans hS.1 (by omega), fun x h1 h2 => (o1 x (by have := hS.1; omega)).trans (hS.2.1 x h1 h2), hS.2.2⟩
      · have e7 : ((.ref (zn M) :: r : List Value).map (zav h0 sp)) = .ref (h0 + zn M) :: r.map (zav h0 sp) := by simp [zav, zad_lt hm]
        dsimp only at w2
        rw [e7] at w2
        exact w2
      · rw [znew_t] at hqq
        have h4 := zcls_lt hqq
        exact absurd h4 (by decide)
      · rw [znew_t, znew_l]
        rw [e1]
        congr 2
        funext q
        simp [zrow, znew_I, zat]
        rfl
    · obtain ⟨hn, h⟩ := zif_some h
      obtain ⟨hle, h⟩ := zif_some h
      obtain ⟨hm, h⟩ := zif_some h
      have g := ih _ h
      have e9 : zn (znew M 101 v.toNatClampNeg) = zn M + 1 := rfl
      have e8 : zsl (znew M 101 v.toNatClampNeg) = zsl M + v.toNatClampNeg := rfl
      have g1 := g.1
      have g2 := g.2.1
      dsimp only at g1 g2
      rw [show zat .boolean = 101 from rfl, e9] at g1
      rw [show zat .boolean = 101 from rfl, e8] at g2
      refine ⟨by omega, by omega, fun H locs ls hn0 hs0 hP hz hS hL => ?_⟩
      have w := fun H1 a1 a2 a3 => g.2.2 H1 locs ls (by show n0 ≤ zn M + 1; omega) (by show s0 ≤ zsl M + _; omega) a1 a2 a3 hL
      rw [hp1] at w
      refine va_newaK hx hb (hts _ (zw_in hw)) rfl hd rfl hn rfl (by show _ * 1 ≤ _; omega) (by omega) (by omega) hz fun H1 cA e1 z1 o1 hAr hNm => ?_
      have hcA : cA = cy 101 := Option.some.inj (hNm.symm.trans (hKK.2 1 _ rfl).2)
      subst hcA
      refine W.cs (cells' := zn (znew M (zat .boolean) v.toNatClampNeg) - n0) (slots' := zsl (znew M (zat .boolean) v.toNatClampNeg) - s0) (by show _ = zn M + 1 - n0; omega) (by show _ = zsl M + v.toNatClampNeg - s0; omega) ?_
      have w2 := w H1 (zP_new hm hP o1 ⟨fun qq hqq => ?_, fun h1 h2 => ?_⟩) (by rw [z1]; show _ = h0 + (zn M + 1); omega) ⟨Nat.le_trans hS.1 (by omega), fun x h1 h2 => (o1 x (by have := hS.1; omega)).trans (hS.2.1 x h1 h2), hS.2.2⟩
      · have e7 : ((.ref (zn M) :: r : List Value).map (zav h0 sp)) = .ref (h0 + zn M) :: r.map (zav h0 sp) := by simp [zav, zad_lt hm]
        dsimp only at w2
        rw [e7] at w2
        exact w2
      · rw [znew_t] at hqq
        have h4 := zcls_lt hqq
        exact absurd h4 (by decide)
      · rw [znew_t, znew_l]
        rw [e1]
        congr 2
        funext q
        simp [zrow, znew_I, zat]
        rfl
    · obtain ⟨hn, h⟩ := zif_some h
      obtain ⟨hle, h⟩ := zif_some h
      obtain ⟨hm, h⟩ := zif_some h
      have g := ih _ h
      have e9 : zn (znew M 102 v.toNatClampNeg) = zn M + 1 := rfl
      have e8 : zsl (znew M 102 v.toNatClampNeg) = zsl M + v.toNatClampNeg := rfl
      have g1 := g.1
      have g2 := g.2.1
      dsimp only at g1 g2
      rw [show zat .byte = 102 from rfl, e9] at g1
      rw [show zat .byte = 102 from rfl, e8] at g2
      refine ⟨by omega, by omega, fun H locs ls hn0 hs0 hP hz hS hL => ?_⟩
      have w := fun H1 a1 a2 a3 => g.2.2 H1 locs ls (by show n0 ≤ zn M + 1; omega) (by show s0 ≤ zsl M + _; omega) a1 a2 a3 hL
      rw [hp1] at w
      refine va_newaK hx hb (hts _ (zw_in hw)) rfl hd rfl hn rfl (by show _ * 1 ≤ _; omega) (by omega) (by omega) hz fun H1 cA e1 z1 o1 hAr hNm => ?_
      have hcA : cA = cy 102 := Option.some.inj (hNm.symm.trans (hKK.2 2 _ rfl).2)
      subst hcA
      refine W.cs (cells' := zn (znew M (zat .byte) v.toNatClampNeg) - n0) (slots' := zsl (znew M (zat .byte) v.toNatClampNeg) - s0) (by show _ = zn M + 1 - n0; omega) (by show _ = zsl M + v.toNatClampNeg - s0; omega) ?_
      have w2 := w H1 (zP_new hm hP o1 ⟨fun qq hqq => ?_, fun h1 h2 => ?_⟩) (by rw [z1]; show _ = h0 + (zn M + 1); omega) ⟨Nat.le_trans hS.1 (by omega), fun x h1 h2 => (o1 x (by have := hS.1; omega)).trans (hS.2.1 x h1 h2), hS.2.2⟩
      · have e7 : ((.ref (zn M) :: r : List Value).map (zav h0 sp)) = .ref (h0 + zn M) :: r.map (zav h0 sp) := by simp [zav, zad_lt hm]
        dsimp only at w2
        rw [e7] at w2
        exact w2
      · rw [znew_t] at hqq
        have h4 := zcls_lt hqq
        exact absurd h4 (by decide)
      · rw [znew_t, znew_l]
        rw [e1]
        congr 2
        funext q
        simp [zrow, znew_I, zat]
        rfl
  | anewarray ix =>
    simp only [zexec] at h
    have hh := z1_some h
    clear h
    obtain ⟨v, r, rfl, h⟩ := hh
    simp only [zck, Bool.and_eq_true, decide_eq_true_eq] at hc
    obtain ⟨⟨rfl, rfl⟩, hw⟩ := hc
    obtain ⟨hn, h⟩ := zif_some h
    obtain ⟨hle, h⟩ := zif_some h
    obtain ⟨hm, h⟩ := zif_some h
    have g := ih _ h
    have g1 := g.1
    have g2 := g.2.1
    dsimp only at g1 g2
    rw [show zn (znew M 103 v.toNatClampNeg) = zn M + 1 from rfl] at g1
    rw [show zsl (znew M 103 v.toNatClampNeg) = zsl M + v.toNatClampNeg from rfl] at g2
    refine ⟨by omega, by omega, fun H locs ls hn0 hs0 hP hz hS hL => ?_⟩
    have w := fun H1 a1 a2 a3 => g.2.2 H1 locs ls (by show n0 ≤ zn M + 1; omega) (by show s0 ≤ zsl M + _; omega) a1 a2 a3 hL
    rw [hp1] at w
    refine W.anewA (t := .int) hx hb hown (hts _ (zw_in hw)) hEv.2.2.2.2.2.2.2 rfl hd rfl hn (by omega) (by omega) (by omega) fun cA kA comp f1 f2 f3 f4 => ?_
    have hcA : cA = cy 103 := Option.some.inj (f1.symm.trans (hKK.2 3 _ rfl).2)
    subst hcA
    generalize hH1 : H.push ({ cls := cy 103, slots := Array.replicate v.toNatClampNeg .null, vm := .none } : Cell) = H1
    have z1 : H1.size = H.size + 1 := by rw [← hH1, Array.size_push]
    have e1 : H1[H.size]? = some (arrV (cy 103) v.toNatClampNeg (fun _ => .null)) := by rw [← hH1, Array.getElem?_push_size, ← arrV_new]
    have o1 : ∀ q : Nat, q < H.size → H1[q]? = H[q]? := fun q hq => by rw [← hH1, Array.getElem?_push, if_neg (Nat.ne_of_lt hq)]
    rw [hz] at e1 o1 z1 ⊢
    refine W.cs (cells' := zn (znew M 103 v.toNatClampNeg) - n0) (slots' := zsl (znew M 103 v.toNatClampNeg) - s0) (by show _ = zn M + 1 - n0; omega) (by show _ = zsl M + v.toNatClampNeg - s0; omega) ?_
    have w2 := w H1 (zP_new hm hP o1 ⟨fun qq hqq => ?_, fun h1 h2 => ?_⟩) (by rw [z1]; show _ = h0 + (zn M + 1); omega) ⟨Nat.le_trans hS.1 (by omega), fun x h1 h2 => (o1 x (by have := hS.1; omega)).trans (hS.2.1 x h1 h2), hS.2.2⟩
    · have e7 : ((.ref (zn M) :: r : List Value).map (zav h0 sp)) = .ref (h0 + zn M) :: r.map (zav h0 sp) := by simp [zav, zad_lt hm]
      dsimp only at w2
      rw [e7] at w2
      exact w2
    · rw [znew_t] at hqq
      have h4 := zcls_lt hqq
      exact absurd h4 (by decide)
    · rw [znew_t, znew_l]
      rw [e1]
      congr 2
      funext q
      simp [zrow, znew_R, va_rf]
  | new ci =>
    simp only [zexec] at h
    obtain ⟨hm, h⟩ := zif_some h
    simp only [zck] at hc
    split at hc
    · rename_i C T N hq
      simp only [Bool.and_eq_true, decide_eq_true_eq] at hc
      obtain ⟨⟨⟨⟨rfl, rfl⟩, hw⟩, hw2⟩, hw3⟩ := hc
      have g := ih _ h
      have g1 := g.1
      have g2 := g.2.1
      dsimp only at g1 g2
      have hcN := zcN_of hq
      dsimp only at hcN
      rw [show zn (znew M ci (zcN ci)) = zn M + 1 from rfl] at g1
      rw [show zsl (znew M ci (zcN ci)) = zsl M + zcN ci from rfl, hcN] at g2
      refine ⟨by omega, by omega, fun H locs ls hn0 hs0 hP hz hS hL => ?_⟩
      have w := fun H1 a1 a2 a3 => g.2.2 H1 locs ls (by show n0 ≤ zn M + 1; omega) (by show s0 ≤ zsl M + _; omega) a1 a2 a3 hL
      rw [hp1] at w
      have hKn := hKK.1 _ _ hq
      refine W.newcK hx hb hown (hts _ (zw_in hw)) (hts _ hw2) (hts _ hw3) rfl hd (by omega) (by omega) hKn.2.1 rfl fun H1 kC hkC e1 z1 o1 => ?_
      rw [hz] at e1 o1 z1 ⊢
      refine W.cs (cells' := zn (znew M ci (zcN ci)) - n0) (slots' := zsl (znew M ci (zcN ci)) - s0) (by show _ = zn M + 1 - n0; omega) (by show _ = zsl M + zcN ci - s0; omega) ?_
      have w2 := w H1 (zP_new hm hP o1 ⟨fun qq hqq => ?_, fun h1 h2 => ?_⟩) (by rw [z1]; show _ = h0 + (zn M + 1); omega) ⟨Nat.le_trans hS.1 (by omega), fun x h1 h2 => (o1 x (by have := hS.1; omega)).trans (hS.2.1 x h1 h2), hS.2.2⟩
      · have e7 : ((.ref (zn M) :: st : List Value).map (zav h0 sp)) = .ref (h0 + zn M) :: st.map (zav h0 sp) := by simp [zav, zad_lt hm]
        dsimp only at w2
        rw [e7] at w2
        exact w2
      · rw [znew_t] at hqq ⊢
        have e6 : qq = (C, T, N) := Option.some.inj (hqq.symm.trans hq)
        subst e6
        refine (u_born (zty ci) hts (zcls_in _ _ hq) hKn hkC e1 (zcls_ty _ _ hq)).to fun k hk => ?_
        have h5 := zty_kind _ _ hq k hk
        simp only [zfv, znew_I, znew_R, zFr]
        revert h5
        cases zty ci k <;> simp [zkind, defaultValue, va_rf]
      · rw [znew_t] at h1
        have h4 := zcls_lt hq
        omega
    · cases hc
  | invokestatic q =>
    simp only [zexec] at h
    obtain ⟨hlen, h⟩ := zif_some h
    obtain ⟨hcat, v, M', he, h⟩ := zcall_some h
    simp only [zck, Bool.and_eq_true, decide_eq_true_eq] at hc
    obtain ⟨⟨rfl, rfl, hg, hna, hkd⟩, hw⟩ := hc
    obtain ⟨⟨k1, k2, k3, k4, k5, k6, k7, k8, k9, k10⟩, hF⟩ := hE _ hg
    obtain ⟨m1, m2, hMet⟩ := hF _ _ _ _ he
    have g := ih _ h
    have g1 := g.1
    have g2 := g.2.1
    dsimp only at g1 g2
    refine ⟨Nat.le_trans m1 g1, Nat.le_trans m2 g2, fun H locs ls hn0 hs0 hP hz hS hL => ?_⟩
    have w := fun H1 locs1 a1 a2 a3 => g.2.2 H1 locs1 ls (Nat.le_trans hn0 m1) (Nat.le_trans hs0 m2) a1 a2 a3 hL
    rw [hp1] at w
    have hst : st.map (zav h0 sp) = (((st.take (q % 10)).reverse).map (zav h0 sp)).reverse ++ (st.drop (q % 10)).map (zav h0 sp) := by
      rw [← List.map_reverse, List.reverse_reverse, ← List.map_append, List.take_append_drop]
    rw [hst]
    have cw := va_cwS (own := own) (index := w2) (y := (md (q / 10000)).1) (bytes := (md (q / 10000)).2.1) (maxL := (md (q / 10000)).2.2.1) (ret := (md (q / 10000)).2.2.2.1) (R := R) (s := s) (args := args) (Ts := zTb) (rm := zrm d M M') (mc := zn M' - zn M) (ms := zsl M' - zsl M) (q % 10) hts (zGood (ws := va_wsS own w2 (md (q / 10000)).1 (.code (md (q / 10000)).1 (md (q / 10000)).2.1 (md (q / 10000)).2.2.1 (md (q / 10000)).2.2.2.1 :: zTb)) (fun w' h' => by
        simp only [va_wsS, List.mem_append, List.mem_cons, List.not_mem_nil, or_false] at h'
        rcases h' with (rfl | rfl | rfl) | rfl | h'
        · exact zw_in hw
        · exact k9 hkd
        · exact k2
        · exact k1
        · exact h')) rfl rfl rfl ⟨k4, k5, by rw [k6, hna]⟩ ⟨by show d + 1 ≤ _; omega, by show 8 + (_ + 11) + 60 * d ≤ _; omega⟩
    refine zr_call (r := v) (M' := M') (va_runS (Ts := zTb) ⟨hx, hb, hml, hown, hts⟩ (hMet l D cy h0 sp X) cw ⟨zPc_blind, fun U hU hW => ⟨rfl, by rw [hU]; exact hz, by rw [hU]; exact hP, zEnv_to hEv hS hU hW⟩⟩ rfl (by rw [List.length_map, List.length_reverse, List.length_take]; omega) hL.1 rfl (lv_room (by rw [zcat_map]; exact hcat)) hd ⟨by omega, by omega⟩) hS fun H1 locs1 hP1 hz1 hS1 => ?_
    refine W.cs (cells' := zn M' - n0) (slots' := zsl M' - s0) (by omega) (by omega) ?_
    rw [zro_push]
    exact w H1 locs1 hP1 hz1 hS1
  | invokevirtual q =>
    simp only [zexec] at h
    obtain ⟨a, r, hdr, h⟩ := zr1_some h
    obtain ⟨hrc, h⟩ := zif_some h
    obtain ⟨hcat, v, M', he, h⟩ := zcall_some h
    simp only [zck, Bool.and_eq_true, decide_eq_true_eq] at hc
    obtain ⟨⟨⟨rfl, rfl, hg, hna, hkd⟩, hw⟩, hcl⟩ := hc
    obtain ⟨⟨k1, k2, k3, k4, k5, k6, k7, k8, k9, k10⟩, hF⟩ := hE _ hg
    obtain ⟨m1, m2, hMet⟩ := hF _ _ _ _ he
    have g := ih _ h
    have g1 := g.1
    have g2 := g.2.1
    dsimp only at g1 g2
    refine ⟨Nat.le_trans m1 g1, Nat.le_trans m2 g2, fun H locs ls hn0 hs0 hP hz hS hL => ?_⟩
    have w := fun H1 locs1 a1 a2 a3 => g.2.2 H1 locs1 ls (Nat.le_trans hn0 m1) (Nat.le_trans hs0 m2) a1 a2 a3 hL
    rw [hp1] at w
    have hlen : q % 10 < st.length := by
      rcases Nat.lt_or_ge (q % 10) st.length with z | z
      · exact z
      · rw [List.drop_eq_nil_of_le z] at hdr; cases hdr
    have hst : st.map (zav h0 sp) = (((st.take (q % 10)).reverse).map (zav h0 sp)).reverse ++ .ref (zad h0 sp a) :: r.map (zav h0 sp) := by
      rw [← List.map_reverse, List.reverse_reverse]
      rw [show (Value.ref (zad h0 sp a) :: r.map (zav h0 sp)) = (Value.ref a :: r).map (zav h0 sp) from rfl, ← hdr, ← List.map_append, List.take_append_drop]
    rw [hst]
    have cw := cwV (own := own) (index := w2) (C := (md (q / 10000)).1.cls) (y := (md (q / 10000)).1) (bytes := (md (q / 10000)).2.1) (maxL := (md (q / 10000)).2.2.1) (ret := (md (q / 10000)).2.2.2.1) (R := R) (s := s) (args := args) (Ts := zTb) (rm := zrm d M M') (mc := zn M' - zn M) (ms := zsl M' - zsl M) (q % 10) hts (zGood (ws := wsV own w2 (md (q / 10000)).1.cls (md (q / 10000)).1 (.code (md (q / 10000)).1 (md (q / 10000)).2.1 (md (q / 10000)).2.2.1 (md (q / 10000)).2.2.2.1 :: zTb)) (fun w' h' => by
        simp only [wsV, List.mem_append, List.mem_cons, List.not_mem_nil, or_false] at h'
        rcases h' with (rfl | rfl | rfl | rfl) | rfl | h'
        · exact zw_in hw
        · exact (k8 hkd).1
        · exact (k8 hkd).2
        · exact k2
        · exact k1
        · exact h')) rfl rfl rfl ⟨rfl, k4, k5, by rw [k6, hna]⟩ ⟨by show d + 1 ≤ _; omega, by show 8 + (_ + 11) + 60 * d ≤ _; omega⟩
    have hrecv : ∃ cell : Cell, H[zad h0 sp a]? = some cell ∧ cell.vm.isStatics = false ∧ s.vm.findClass (md (q / 10000)).1.cls = some cell.cls := by
      by_cases h99 : q / 100 % 100 = 99
      · rw [if_pos h99] at hrc hcl
        simp only [decide_eq_true_eq] at hrc hcl
        subst hrc
        rw [hcl]
        obtain ⟨cell, c1, c2, c3, -⟩ := (hEv.2.2.2.2.1.1 0 (by decide)).1.kept hS.2.1
        exact ⟨cell, c1, c2, c3⟩
      · rw [if_neg h99] at hrc hcl
        simp only [decide_eq_true_eq] at hcl
        have hta := za_of hrc
        cases hq : vwCl[q / 100 % 100]? with
        | none => rw [hq] at hcl; cases hcl
        | some cq =>
          rw [hq] at hcl
          have e5 : cq.1 = (md (q / 10000)).1.cls := Option.some.inj hcl
          have ha : a < zn M := hP.2.1 a (by rw [hta]; have := zcls_lt hq; omega)
          obtain ⟨cell, q1, q2, q3, -⟩ := (hP.2.2 a ha).1 cq (by rw [hta]; exact hq)
          rw [hta] at q2
          rw [zad_lt (zP_lt hP ha), ← e5]
          exact ⟨cell, q1, by rw [q3]; rfl, by rw [q2]; exact (hKK.1 _ _ hq).2.1⟩
    refine zr_call (r := v) (M' := M') (va_runV (Ts := zTb) ⟨hx, hb, hml, hown, hts⟩ (hMet l D cy h0 sp X) cw ⟨zPc_blind, hrecv, fun U hU hW => ⟨rfl, by rw [hU]; exact hz, by rw [hU]; exact hP, zEnv_to hEv hS hU hW⟩⟩ rfl (by rw [List.length_map, List.length_reverse, List.length_take]; omega) hL.1 rfl (lv_room (by rw [zcat_map]; exact hcat)) hd ⟨by omega, by omega⟩) hS fun H1 locs1 hP1 hz1 hS1 => ?_
    refine W.cs (cells' := zn M' - n0) (slots' := zsl M' - s0) (by omega) (by omega) ?_
    rw [zro_push]
    exact w H1 locs1 hP1 hz1 hS1
  | invokespecial q =>
    simp only [zexec] at h
    obtain ⟨a, r, hdr, h⟩ := zr1_some h
    obtain ⟨hcat, v, M', he, h⟩ := zcall_some h
    simp only [zck, Bool.and_eq_true, decide_eq_true_eq] at hc
    obtain ⟨⟨rfl, rfl, hg, hna, hkd⟩, hw⟩ := hc
    obtain ⟨⟨k1, k2, k3, k4, k5, k6, k7, k8, k9, k10⟩, hF⟩ := hE _ hg
    obtain ⟨m1, m2, hMet⟩ := hF _ _ _ _ he
    have g := ih _ h
    have g1 := g.1
    have g2 := g.2.1
    dsimp only at g1 g2
    refine ⟨Nat.le_trans m1 g1, Nat.le_trans m2 g2, fun H locs ls hn0 hs0 hP hz hS hL => ?_⟩
    have w := fun H1 locs1 a1 a2 a3 => g.2.2 H1 locs1 ls (Nat.le_trans hn0 m1) (Nat.le_trans hs0 m2) a1 a2 a3 hL
    rw [hp1] at w
    have hlen : q % 10 < st.length := by
      rcases Nat.lt_or_ge (q % 10) st.length with z | z
      · exact z
      · rw [List.drop_eq_nil_of_le z] at hdr; cases hdr
    have hst : st.map (zav h0 sp) = (((st.take (q % 10)).reverse).map (zav h0 sp)).reverse ++ .ref (zad h0 sp a) :: r.map (zav h0 sp) := by
      rw [← List.map_reverse, List.reverse_reverse]
      rw [show (Value.ref (zad h0 sp a) :: r.map (zav h0 sp)) = (Value.ref a :: r).map (zav h0 sp) from rfl, ← hdr, ← List.map_append, List.take_append_drop]
    rw [hst]
    obtain ⟨k10a, k10b, k10c⟩ := k10 hkd
    have cw := cwI (own := own) (index := w2) (y := (md (q / 10000)).1) (bytes := (md (q / 10000)).2.1) (maxL := (md (q / 10000)).2.2.1) (R := R) (s := s) (args := args) (Ts := zTb) (rm := zrm d M M') (mc := zn M' - zn M) (ms := zsl M' - zsl M) (q % 10) hts (zGood (ws := (.code (md (q / 10000)).1 (md (q / 10000)).2.1 (md (q / 10000)).2.2.1 (md (q / 10000)).2.2.2.1 :: zTb)) (fun w' h' => by
        simp only [List.mem_cons] at h'
        rcases h' with rfl | h'
        · exact k1
        · exact h')) (by rw [k10c]) rfl rfl (hts _ k2) (hts _ (zw_in hw)) (hts _ k10a) k10b ⟨k4, k5, by rw [k6, hna]⟩ ⟨by show d + 1 ≤ _; omega, by show 8 + (_ + 11) + 60 * d ≤ _; omega⟩
    refine zr_call (r := v) (M' := M') (va_runI (Ts := zTb) ⟨hx, hb, hml, hown, hts⟩ (hMet l D cy h0 sp X) cw ⟨zPc_blind, fun U hU hW => ⟨rfl, by rw [hU]; exact hz, by rw [hU]; exact hP, zEnv_to hEv hS hU hW⟩⟩ rfl (by rw [List.length_map, List.length_reverse, List.length_take]; omega) hL.1 rfl (lv_room (by rw [zcat_map]; exact hcat)) hd ⟨by omega, by omega⟩) hS fun H1 locs1 hP1 hz1 hS1 => ?_
    refine W.cs (cells' := zn M' - n0) (slots' := zsl M' - s0) (by omega) (by omega) ?_
    rw [zro_push]
    exact w H1 locs1 hP1 hz1 hS1
  | ldc ix =>
    revert h hc
    match ix with
    | 0 =>
      intro h hc
      simp only [zexec] at h
      have g := ih _ h
      refine ⟨g.1, g.2.1, fun H locs ls hn0 hs0 hP hz hS hL => ?_⟩
      have w := g.2.2 H locs ls hn0 hs0 hP hz hS hL
      simp only [zck, decide_eq_true_eq] at hc
      obtain ⟨rfl, rfl, rfl⟩ := hc
      rw [hp1] at w
      exact va_ldcS hx hb hown hEv.2.2.2.2.2.1 hd w
    | 1 =>
      intro h hc
      simp only [zexec] at h
      have hh := zr1_some h
      clear h
      obtain ⟨a, r, rfl, h⟩ := hh
      have hh := zif_some h
      clear h
      obtain ⟨rfl, h⟩ := hh
      have g := ih _ h
      refine ⟨g.1, g.2.1, fun H locs ls hn0 hs0 hP hz hS hL => ?_⟩
      have w := g.2.2 H locs ls hn0 hs0 hP hz hS hL
      simp only [zck, Bool.and_eq_true, decide_eq_true_eq] at hc
      obtain ⟨⟨rfl, rfl⟩, hw⟩ := hc
      rw [hp1] at w
      obtain ⟨cf, k, fi, f, cell, f1, f2, f3, f4, f5, f6⟩ := (hEv.2.2.2.2.1.1 0 (by decide)).2.2.1.kept hS.2.1
      exact W.getf hx hb hown (hts _ (zw_in hw)) f1 f2 f3 f4 f5 rfl rfl hd w
    | 2 =>
      intro h hc
      simp only [zexec] at h
      have hh := zr1_some h
      clear h
      obtain ⟨a, r, rfl, h⟩ := hh
      have hh := zif_some h
      clear h
      obtain ⟨rfl, h⟩ := hh
      have g := ih _ h
      refine ⟨g.1, g.2.1, fun H locs ls hn0 hs0 hP hz hS hL => ?_⟩
      have w := g.2.2 H locs ls hn0 hs0 hP hz hS hL
      simp only [zck, Bool.and_eq_true, decide_eq_true_eq] at hc
      obtain ⟨⟨rfl, rfl⟩, hw⟩ := hc
      rw [hp1] at w
      obtain ⟨cf, k, fi, f, cell, f1, f2, f3, f4, f5, f6⟩ := (hEv.2.2.2.2.1.1 0 (by decide)).2.1.kept hS.2.1
      exact W.getf hx hb hown (hts _ (zw_in hw)) f1 f2 f3 f4 f5 rfl rfl hd w
    | 3 =>
      intro h hc
      simp only [zexec] at h
      have g := ih _ h
      refine ⟨g.1, g.2.1, fun H locs ls hn0 hs0 hP hz hS hL => ?_⟩
      have w := g.2.2 H locs ls hn0 hs0 hP hz hS hL
      simp only [zck, Bool.and_eq_true, decide_eq_true_eq] at hc
      obtain ⟨⟨rfl, rfl⟩, hw⟩ := hc
      rw [hp1] at w
      exact va_gets hx hb hEv.2.2.2.2.2.2.1 hS hown (hts _ (zw_in hw)) (fun _ h => h) hd w
    | k + 4 =>
      intro h hc
      simp [zexec] at h
  | ireturn =>
    simp only [zexec] at h
    split at h
    · simp only [zck, decide_eq_true_eq] at hc
      obtain ⟨rfl, rfl, hr⟩ := hc
      cases h
      exact ⟨Nat.le_refl _, Nat.le_refl _, fun H locs ls hn0 hs0 hP hz hS hL => hRi _ _ H locs ls _ rfl (Or.inl hr) hd hn0 hs0 hP hz hS⟩
    · cases h
  | lreturn =>
    simp only [zexec] at h
    split at h
    · obtain ⟨hv, h⟩ := zif_some h
      simp only [zck, decide_eq_true_eq] at hc
      obtain ⟨rfl, rfl, hr⟩ := hc
      cases h
      exact ⟨Nat.le_refl _, Nat.le_refl _, fun H locs ls hn0 hs0 hP hz hS hL => hRi _ _ H locs ls _ rfl (Or.inr ⟨hr, hv⟩) hd hn0 hs0 hP hz hS⟩
    · cases h
  | areturn =>
    simp only [zexec] at h
    split at h
    · simp only [zck, Bool.and_eq_true, decide_eq_true_eq] at hc
      obtain ⟨⟨rfl, rfl⟩, hr⟩ := hc
      have hr' : ∃ C, ret = some (.object C) := by
        split at hr
        · exact ⟨_, rfl⟩
        · cases hr
      cases h
      exact ⟨Nat.le_refl _, Nat.le_refl _, fun H locs ls hn0 hs0 hP hz hS hL => hRa _ _ H locs ls _ rfl hr' hd hn0 hs0 hP hz hS⟩
    · cases h
  | return_ =>
    simp only [zexec] at h
    split at h
    · simp only [zck, decide_eq_true_eq] at hc
      obtain ⟨rfl, rfl, hr⟩ := hc
      cases h
      exact ⟨Nat.le_refl _, Nat.le_refl _, fun H locs ls hn0 hs0 hP hz hS hL => hRv _ H locs ls _ rfl hr hd hn0 hs0 hP hz hS⟩
    · cases h
  | _ => simp [zexec] at h
end
section
/-! A METHOD BY ITS BYTES AND ITS CALLEES -/
def zlk (l : List (Nat × zF)) (g : Nat) : zF := match l with
  | [] => fun _ _ => none
  | q :: r => if g = q.1 then q.2 else zlk r g
def zX0 : zX := (0, fun _ => 0)
theorem zlk_mem : ∀ {l : List (Nat × zF)} {g : Nat} {a : List Value} {M : zM} {y : Value × zM}, zlk l g a M = some y → (g, zlk l g) ∈ l
  | [], _, _, _, _, h => by cases h
  | q :: r, g, a, M, y, h => by
    by_cases hg : g = q.1
    · have e : zlk (q :: r) g = q.2 := by simp [zlk, hg]
      rw [e, hg]
      exact List.mem_cons_self
    · have e : zlk (q :: r) g = zlk r g := by simp [zlk, hg]
      rw [e] at h ⊢
      exact List.mem_cons_of_mem _ (zlk_mem h)
/-- the two continuations carry nothing of their own -/
theorem zexec_nat {X : zX} {E : Nat → zF} {γ : Type} (i : Instr) (pc : Nat) (L st : List Value) (M : zM) (k : zCf → Option γ) (kr : Value × zM → Option γ) :
    zexec X E i pc L st M k kr = (zexec X E i pc L st M (fun x => some (Sum.inl x)) (fun r => some (Sum.inr r))).bind (fun z => Sum.elim k kr z) := by
  cases i
  all_goals first
    | rfl
    | (rename_i ix; match ix with
        | 0 => rfl
        | 1 => (simp only [zexec, zr1]; repeat' split) <;> rfl
        | 2 => (simp only [zexec, zr1]; repeat' split) <;> rfl
        | 3 => rfl
        | k + 4 => rfl)
    | (rename_i cn t; cases cn <;> simp only [zexec, z1, z2] <;> (repeat' split) <;> rfl)
    | (simp only [zexec, z1, z2, zr1, zir, ziir, zcall, zcV, zcI, zcR]; (repeat' split) <;> first | rfl | contradiction)
theorem zexec_mono {X : zX} {E : Nat → zF} (hE : ∀ g a M v M', E g a M = some (v, M') → zn M ≤ zn M' ∧ zsl M ≤ zsl M') (i : Instr) (pc : Nat) (L st : List Value) (M : zM) {z : zCf ⊕ (Value × zM)}
    (h : zexec X E i pc L st M (fun x => some (Sum.inl x)) (fun r => some (Sum.inr r)) = some z) : (∀ x, z = .inl x → zn M ≤ zn x.2.2.2 ∧ zsl M ≤ zsl x.2.2.2) ∧ (∀ r, z = .inr r → r.2 = M) := by
  cases i
  case ldc ix =>
    match ix, h with
    | 0, h => cases h; exact ⟨fun x hx => by cases hx; exact ⟨Nat.le_refl _, Nat.le_refl _⟩, fun r hr => by cases hr⟩
    | 1, h =>
      simp only [zexec, zr1] at h
      repeat' split at h
      all_goals first | (cases h; done) | (cases h; exact ⟨fun x hx => by cases hx; exact ⟨Nat.le_refl _, Nat.le_refl _⟩, fun r hr => by cases hr⟩)
    | 2, h =>
      simp only [zexec, zr1] at h
      repeat' split at h
      all_goals first | (cases h; done) | (cases h; exact ⟨fun x hx => by cases hx; exact ⟨Nat.le_refl _, Nat.le_refl _⟩, fun r hr => by cases hr⟩)
    | 3, h => cases h; exact ⟨fun x hx => by cases hx; exact ⟨Nat.le_refl _, Nat.le_refl _⟩, fun r hr => by cases hr⟩
    | k + 4, h => cases h
  case ifCond cn t =>
    cases cn <;> simp only [zexec, z1] at h <;> (repeat' split at h) <;> first | (cases h; done) | (cases h; exact ⟨fun x hx => by cases hx; exact ⟨Nat.le_refl _, Nat.le_refl _⟩, fun r hr => by cases hr⟩)
  case if_icmp cn t =>
    cases cn <;> simp only [zexec, z2] at h <;> (repeat' split at h) <;> first | (cases h; done) | (cases h; exact ⟨fun x hx => by cases hx; exact ⟨Nat.le_refl _, Nat.le_refl _⟩, fun r hr => by cases hr⟩)
  all_goals (try simp only [zexec, z1, z2, zr1, zir, ziir, zcall, zcV, zcI, zcR] at h)
  all_goals (try (repeat' split at h))
  all_goals first
    | (cases h; done)
    | (cases h; exact ⟨fun x hx => by cases hx; exact ⟨Nat.le_refl _, Nat.le_refl _⟩, fun r hr => by cases hr⟩)
    | (cases h; exact ⟨fun x hx => by cases hx; exact ⟨Nat.le_succ _, Nat.le_add_right _ _⟩, fun r hr => by cases hr⟩)
    | (cases h; exact ⟨fun x hx => (by cases hx), fun r hr => by cases hr; rfl⟩)
    | (rename_i he; cases h; exact ⟨fun x hx => by cases hx; exact hE _ _ _ _ _ he, fun r hr => by cases hr⟩)
    | skip
theorem zrunT_mono {X : zX} {C : List Instr} {E : Nat → zF} (hE : ∀ g a M v M', E g a M = some (v, M') → zn M ≤ zn M' ∧ zsl M ≤ zsl M') : ∀ (n : Nat) (x : zCf) (y : Value × zM), zrunT X C E n x = some y → zn x.2.2.2 ≤ zn y.2 ∧ zsl x.2.2.2 ≤ zsl y.2
  | 0, _, _, h => by cases h
  | n + 1, x, y, h => by
    simp only [zrunT, zstep] at h
    split at h
    · rw [zexec_nat] at h
      cases hz : zexec X E _ x.1 x.2.1 x.2.2.1 x.2.2.2 (fun x => some (Sum.inl x)) (fun r => some (Sum.inr r)) with
      | none => rw [hz] at h; cases h
      | some z =>
        rw [hz] at h
        obtain ⟨m1, m2⟩ := zexec_mono hE _ _ _ _ _ hz
        cases z with
        | inl x' =>
          have h1 := m1 x' rfl
          have h2 := zrunT_mono hE n x' y h
          exact ⟨Nat.le_trans h1.1 h2.1, Nat.le_trans h1.2 h2.2⟩
        | inr r =>
          have h1 := m2 r rfl
          have h2 : r = y := Option.some.inj h
          subst h2
          rw [h1]
          exact ⟨Nat.le_refl _, Nat.le_refl _⟩
    · cases h
/-- the whole check of a method's bytes -/
def zckm (md : zMd) (ini : Bool) (cd : List zE) (mdf : Nat → zMd) (gs : List Nat) : Bool :=
  zchain cd && decide (zpc cd 0 = 0) && cd.all (fun e => decide (decode md.2.1 e.1 = .ok (e.2.2.1, e.2.1)) && zck md.1.cls ini cd md.2.2.2.1 mdf gs e)
theorem zlk_mono {d : Nat} {mdf : Nat → zMd} {l : List (Nat × zF)} (hE : ∀ q ∈ l, zSnd d (mdf q.1) q.2) : ∀ g a M v M', zlk l g a M = some (v, M') → zn M ≤ zn M' ∧ zsl M ≤ zsl M' := fun g a M v M' h => by
  have h2 := (hE _ (zlk_mem h)).2 a M v M' h
  exact ⟨h2.1, h2.2.1⟩
theorem zlk_ok {d : Nat} {mdf : Nat → zMd} : ∀ {l : List (Nat × zF)}, (∀ q ∈ l, zSnd d (mdf q.1) q.2) → ∀ g ∈ l.map (fun q => q.1), zSnd d (mdf g) (zlk l g)
  | [], _, g, h => by simp at h
  | q :: r, hE, g, h => by
    by_cases hg : g = q.1
    · subst hg
      simp only [zlk, if_true]
      exact hE q List.mem_cons_self
    · simp only [zlk, hg, if_false]
      refine zlk_ok (fun q' h' => hE q' (List.mem_cons_of_mem _ h')) g ?_
      simp only [List.map_cons, List.mem_cons, hg, false_or] at h
      exact h
set_option maxHeartbeats 4000000 in
theorem zsound {d : Nat} {md : zMd} {ini : Bool} {cd : List zE} {mdf : Nat → zMd} {l : List (Nat × zF)} (hok : zMok md) (hini : ini = true → md.1.name = "<init>") (hck : zckm md ini cd mdf (l.map (fun q => q.1)) = true) (hE : ∀ q ∈ l, zSnd d (mdf q.1) q.2) : zSnd (d + 1) md (zden zX0 (cd.map (fun e => e.2.2.2.1)) (zlk l) md.2.2.1) := by
  have hlk := zlk_ok hE
  refine ⟨hok, fun args M r M' hF => ?_⟩
  obtain ⟨⟨hl, hc⟩, n, hn⟩ := zden_run hF
  have hmono := zrunT_mono (zlk_mono hE) n _ _ hn
  refine ⟨hmono.1, hmono.2, fun l' D cy h0 sp X => ?_⟩
  simp only [zckm, Bool.and_eq_true, decide_eq_true_eq, List.all_eq_true] at hck
  obtain ⟨⟨hch, hp0⟩, hall⟩ := hck
  refine Met.ofW (cc := md.2.1) (maxL := md.2.2.1) (ret := md.2.2.2.1) hok.2.2.1 rfl ?_
  intro p e s m args' below meth c s₁ B hml hv
  obtain ⟨rfl, hsz, hP, hEv⟩ := hv
  have hx := B.exec
  have hb := B.bytes
  have hr := B.returns
  have hts0 := atoms_spec (ws := Cond.code md.1 md.2.1 md.2.2.1 md.2.2.2.1 :: zTb) B.pre
  have hts : ∀ w ∈ zTb, w.before (args.map (zav h0 sp)).toArray s = true := fun w hw => hts0 w (List.mem_cons_of_mem _ hw)
  have hown : s.vm.findClass md.1.cls = some m.cls := findClass_of_methodNamed B.named
  have hlocks := B.notSynchronized
  have hin : meth.name = md.1.name := (name_of_methodNamed B.named B.method).1
  rw [lg_entry_eq]
  have hfree : ∀ {H : Heap} {locs : List Loc}, va_S (fun q => h0 ≤ q) s.heap H locs → ∀ q ∈ locs, h0 ≤ q.base := fun hS => hS.2.2
  refine (fun key => ?_) (zwalk (p := p) (e := e) (Q := MQ below (zQc D cy h0 sp r M') (args.map (zav h0 sp)).toArray s (zn M' - zn M) (zsl M' - zsl M) (fun q => h0 ≤ q)) (R := (headSpec (Cond.code md.1 md.2.1 md.2.2.1 md.2.2.2.1 :: zTb) (zrm (d + 1) M M')).room) (X' := zX0) (n0 := zn M) (s0 := zsl M) (d := d) (gs := l.map (fun q => q.1)) (E := zlk l) (y := (r, M')) (md := mdf) (ini := ini) (own := md.1.cls) (ret := md.2.2.2.1) (l := l') (below := below) (cd := cd)
    hx hb hml hown hts (fun h => hin.trans (hini h)) hEv (Or.inl rfl) ⟨Nat.le_refl _, Nat.le_refl _, Nat.le_refl _, Nat.le_refl _⟩ hch
    (fun o en ho => hall en (List.mem_of_getElem? ho)) hlk ?_ ?_ ?_ n _ hn)
  · obtain ⟨-, -, k⟩ := key
    have k2 := k s.heap [] _ (Nat.le_refl _) (Nat.le_refl _) hP hsz va_S.rf (zLoc_entry args hl hc)
    simp only [zstart, List.map_nil, hp0] at k2
    exact W.cs (by omega) (by omega) k2
  · intro v M2 H locs ls pc hy hret hdg hn0 hs0 hP2 hz2 hS
    have e1 : r = .int v := (Prod.mk.inj hy).1
    have e2 : M' = M2 := (Prod.mk.inj hy).2
    subst e1; subst e2
    have hq : ∀ t : State, t.heap = H → s.WarmedH t.vm → zQc D cy h0 sp (.int v) M' (args.map (zav h0 sp)).toArray s (.returned (some (.int v))) t := fun t ht hW => ⟨rfl, by rw [ht]; exact hz2, by rw [ht]; exact hP2, hS.F ht⟩
    rcases hret with hret | ⟨hret, hv01⟩
    · exact W.iret hx hb (hr.trans hret) hq (hfree hS) hdg hlocks
    · rcases hret with hret | hret
      · exact W.zret (ty := .boolean) hx hb (hr.trans hret) (by rcases hv01 with rfl | rfl <;> rfl) hq (hfree hS) hdg hlocks
      · exact W.zret (ty := .byte) hx hb (hr.trans hret) (by rcases hv01 with rfl | rfl <;> rfl) hq (hfree hS) hdg hlocks
  · intro M2 H locs ls pc hy hret hdg hn0 hs0 hP2 hz2 hS
    have e1 : r = .long 0 := (Prod.mk.inj hy).1
    have e2 : M' = M2 := (Prod.mk.inj hy).2
    subst e1; subst e2
    exact W.vret hx hb (hr.trans hret) (fun t ht hW => ⟨rfl, by rw [ht]; exact hz2, by rw [ht]; exact hP2, hS.F ht⟩) (hfree hS) hdg hlocks
  · intro a M2 H locs ls pc hy hret hdg hn0 hs0 hP2 hz2 hS
    have e1 : r = .ref a := (Prod.mk.inj hy).1
    have e2 : M' = M2 := (Prod.mk.inj hy).2
    subst e1; subst e2
    obtain ⟨C, hret⟩ := hret
    exact W.aret (v := .ref (zad h0 sp a)) hx hb (hr.trans hret) (Or.inl ⟨C, rfl⟩) (Or.inr ⟨_, rfl⟩) (fun t ht hW => ⟨rfl, by rw [ht]; exact hz2, by rw [ht]; exact hP2, hS.F ht⟩) (hfree hS) hdg hlocks
end
