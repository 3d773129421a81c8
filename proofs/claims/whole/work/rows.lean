section
-- ===== PART A: goes FIRST, ahead of the names: the tables' words, and 'selects' of the private methods out of them =====
/-- a private method of a class that the tables say can be made, by its rows of tables_1 -/
def lw_okq (q : MethodName × Nat) : Prop := (q.1.cls ≠ "java/lang/invoke/MethodHandle" ∧ q.1.cls ≠ "java/lang/invoke/VarHandle") ∧ Cond.instantiable q.1.cls q.2 ∈ tables_1 ∧ Cond.privateMethod q.1 ∈ tables_1 ∧ Cond.instanceMethod q.1 ∈ tables_1
theorem lw_p0 : lw_okq (⟨"HeapMover$Land", "measure", "()V"⟩, 8) := ⟨⟨by decide +kernel, by decide +kernel⟩, List.mem_of_getElem? (i := 23) (by decide +kernel), List.mem_of_getElem? (i := 271) (by decide +kernel), List.mem_of_getElem? (i := 272) (by decide +kernel)⟩
theorem lw_p1 : lw_okq (⟨"HeapMover$Land", "measureRoads", "()V"⟩, 8) := ⟨⟨by decide +kernel, by decide +kernel⟩, List.mem_of_getElem? (i := 23) (by decide +kernel), List.mem_of_getElem? (i := 275) (by decide +kernel), List.mem_of_getElem? (i := 276) (by decide +kernel)⟩
theorem lw_p2 : lw_okq (⟨"HeapMover$Land", "shortenBy", "(II)V"⟩, 8) := ⟨⟨by decide +kernel, by decide +kernel⟩, List.mem_of_getElem? (i := 23) (by decide +kernel), List.mem_of_getElem? (i := 289) (by decide +kernel), List.mem_of_getElem? (i := 290) (by decide +kernel)⟩
theorem lw_p3 : lw_okq (⟨"HeapMover", "noteChange", "(IIII)V"⟩, 12) := ⟨⟨by decide +kernel, by decide +kernel⟩, List.mem_of_getElem? (i := 15) (by decide +kernel), List.mem_of_getElem? (i := 293) (by decide +kernel), List.mem_of_getElem? (i := 294) (by decide +kernel)⟩
theorem lw_p4 : lw_okq (⟨"HeapMover", "forgetResults", "()V"⟩, 12) := ⟨⟨by decide +kernel, by decide +kernel⟩, List.mem_of_getElem? (i := 15) (by decide +kernel), List.mem_of_getElem? (i := 301) (by decide +kernel), List.mem_of_getElem? (i := 302) (by decide +kernel)⟩
theorem lw_p5 : lw_okq (⟨"HeapMover", "takeBack", "(I)V"⟩, 12) := ⟨⟨by decide +kernel, by decide +kernel⟩, List.mem_of_getElem? (i := 15) (by decide +kernel), List.mem_of_getElem? (i := 342) (by decide +kernel), List.mem_of_getElem? (i := 343) (by decide +kernel)⟩
theorem lw_p6 : lw_okq (⟨"HeapMover", "refusalOfMoving", "(II)I"⟩, 12) := ⟨⟨by decide +kernel, by decide +kernel⟩, List.mem_of_getElem? (i := 15) (by decide +kernel), List.mem_of_getElem? (i := 387) (by decide +kernel), List.mem_of_getElem? (i := 388) (by decide +kernel)⟩
theorem lw_p7 : lw_okq (⟨"HeapMover", "leastCost", "(II)I"⟩, 12) := ⟨⟨by decide +kernel, by decide +kernel⟩, List.mem_of_getElem? (i := 15) (by decide +kernel), List.mem_of_getElem? (i := 395) (by decide +kernel), List.mem_of_getElem? (i := 396) (by decide +kernel)⟩
theorem lw_p8 : lw_okq (⟨"HeapMover$Mover", "joinSource", "(I[I[I)I"⟩, 1) := ⟨⟨by decide +kernel, by decide +kernel⟩, List.mem_of_getElem? (i := 129) (by decide +kernel), List.mem_of_getElem? (i := 407) (by decide +kernel), List.mem_of_getElem? (i := 408) (by decide +kernel)⟩
theorem lw_p9 : lw_okq (⟨"HeapMover$Network", "addArc", "(IIII)V"⟩, 9) := ⟨⟨by decide +kernel, by decide +kernel⟩, List.mem_of_getElem? (i := 135) (by decide +kernel), List.mem_of_getElem? (i := 415) (by decide +kernel), List.mem_of_getElem? (i := 416) (by decide +kernel)⟩
theorem lw_p10 : lw_okq (⟨"HeapMover$Mover", "joinSink", "(I[I[I)V"⟩, 1) := ⟨⟨by decide +kernel, by decide +kernel⟩, List.mem_of_getElem? (i := 129) (by decide +kernel), List.mem_of_getElem? (i := 420) (by decide +kernel), List.mem_of_getElem? (i := 421) (by decide +kernel)⟩
theorem lw_p11 : lw_okq (⟨"HeapMover$Network", "search", "()Z"⟩, 9) := ⟨⟨by decide +kernel, by decide +kernel⟩, List.mem_of_getElem? (i := 135) (by decide +kernel), List.mem_of_getElem? (i := 432) (by decide +kernel), List.mem_of_getElem? (i := 433) (by decide +kernel)⟩
theorem lw_p12 : lw_okq (⟨"HeapMover$Network", "relax", "()Z"⟩, 9) := ⟨⟨by decide +kernel, by decide +kernel⟩, List.mem_of_getElem? (i := 135) (by decide +kernel), List.mem_of_getElem? (i := 438) (by decide +kernel), List.mem_of_getElem? (i := 439) (by decide +kernel)⟩
theorem lw_p13 : lw_okq (⟨"HeapMover$Network", "carry", "(I)V"⟩, 9) := ⟨⟨by decide +kernel, by decide +kernel⟩, List.mem_of_getElem? (i := 135) (by decide +kernel), List.mem_of_getElem? (i := 446) (by decide +kernel), List.mem_of_getElem? (i := 447) (by decide +kernel)⟩
theorem lw_p14 : lw_okq (⟨"HeapMover", "refusalAtPlaces", "(IIII)I"⟩, 12) := ⟨⟨by decide +kernel, by decide +kernel⟩, List.mem_of_getElem? (i := 15) (by decide +kernel), List.mem_of_getElem? (i := 455) (by decide +kernel), List.mem_of_getElem? (i := 456) (by decide +kernel)⟩
theorem lw_p15 : lw_okq (⟨"HeapMover", "makePlan", "(II)V"⟩, 12) := ⟨⟨by decide +kernel, by decide +kernel⟩, List.mem_of_getElem? (i := 15) (by decide +kernel), List.mem_of_getElem? (i := 459) (by decide +kernel), List.mem_of_getElem? (i := 460) (by decide +kernel)⟩
def lw_privs_1 : List (MethodName × Nat) := [(⟨"HeapMover$Land", "measure", "()V"⟩, 8), (⟨"HeapMover$Land", "measureRoads", "()V"⟩, 8), (⟨"HeapMover$Land", "shortenBy", "(II)V"⟩, 8), (⟨"HeapMover", "noteChange", "(IIII)V"⟩, 12), (⟨"HeapMover", "forgetResults", "()V"⟩, 12), (⟨"HeapMover", "takeBack", "(I)V"⟩, 12), (⟨"HeapMover", "refusalOfMoving", "(II)I"⟩, 12), (⟨"HeapMover", "leastCost", "(II)I"⟩, 12), (⟨"HeapMover$Mover", "joinSource", "(I[I[I)I"⟩, 1), (⟨"HeapMover$Network", "addArc", "(IIII)V"⟩, 9), (⟨"HeapMover$Mover", "joinSink", "(I[I[I)V"⟩, 1), (⟨"HeapMover$Network", "search", "()Z"⟩, 9), (⟨"HeapMover$Network", "relax", "()Z"⟩, 9), (⟨"HeapMover$Network", "carry", "(I)V"⟩, 9), (⟨"HeapMover", "refusalAtPlaces", "(IIII)I"⟩, 12), (⟨"HeapMover", "makePlan", "(II)V"⟩, 12)]
theorem lw_r1 : ∀ q ∈ lw_privs_1, lw_okq q := List.forall_mem_cons.mpr ⟨lw_p0, List.forall_mem_cons.mpr ⟨lw_p1, List.forall_mem_cons.mpr ⟨lw_p2, List.forall_mem_cons.mpr ⟨lw_p3, List.forall_mem_cons.mpr ⟨lw_p4, List.forall_mem_cons.mpr ⟨lw_p5, List.forall_mem_cons.mpr ⟨lw_p6, List.forall_mem_cons.mpr ⟨lw_p7, List.forall_mem_cons.mpr ⟨lw_p8, List.forall_mem_cons.mpr ⟨lw_p9, List.forall_mem_cons.mpr ⟨lw_p10, List.forall_mem_cons.mpr ⟨lw_p11, List.forall_mem_cons.mpr ⟨lw_p12, List.forall_mem_cons.mpr ⟨lw_p13, List.forall_mem_cons.mpr ⟨lw_p14, List.forall_mem_cons.mpr ⟨lw_p15, fun _ h => absurd h List.not_mem_nil⟩⟩⟩⟩⟩⟩⟩⟩⟩⟩⟩⟩⟩⟩⟩⟩
theorem lw_p16 : lw_okq (⟨"HeapMover$Planner", "takeGoods", "(ILHeapMover$Network;[I[I)V"⟩, 5) := ⟨⟨by decide +kernel, by decide +kernel⟩, List.mem_of_getElem? (i := 181) (by decide +kernel), List.mem_of_getElem? (i := 468) (by decide +kernel), List.mem_of_getElem? (i := 469) (by decide +kernel)⟩
theorem lw_p17 : lw_okq (⟨"HeapMover$Planner", "raiseHeights", "(LHeapMover$Land;)V"⟩, 5) := ⟨⟨by decide +kernel, by decide +kernel⟩, List.mem_of_getElem? (i := 181) (by decide +kernel), List.mem_of_getElem? (i := 474) (by decide +kernel), List.mem_of_getElem? (i := 475) (by decide +kernel)⟩
theorem lw_p18 : lw_okq (⟨"HeapMover$Planner", "lowerHeights", "(LHeapMover$Land;)Z"⟩, 5) := ⟨⟨by decide +kernel, by decide +kernel⟩, List.mem_of_getElem? (i := 181) (by decide +kernel), List.mem_of_getElem? (i := 478) (by decide +kernel), List.mem_of_getElem? (i := 479) (by decide +kernel)⟩
theorem lw_p19 : lw_okq (⟨"HeapMover$Planner", "putFirst", "(LHeapMover$Land;)V"⟩, 5) := ⟨⟨by decide +kernel, by decide +kernel⟩, List.mem_of_getElem? (i := 181) (by decide +kernel), List.mem_of_getElem? (i := 482) (by decide +kernel), List.mem_of_getElem? (i := 483) (by decide +kernel)⟩
theorem lw_p20 : lw_okq (⟨"HeapMover$Planner", "isTight", "(LHeapMover$Land;II)Z"⟩, 5) := ⟨⟨by decide +kernel, by decide +kernel⟩, List.mem_of_getElem? (i := 181) (by decide +kernel), List.mem_of_getElem? (i := 486) (by decide +kernel), List.mem_of_getElem? (i := 487) (by decide +kernel)⟩
theorem lw_p21 : lw_okq (⟨"HeapMover$Planner", "findRing", "(LHeapMover$Land;III)Z"⟩, 5) := ⟨⟨by decide +kernel, by decide +kernel⟩, List.mem_of_getElem? (i := 181) (by decide +kernel), List.mem_of_getElem? (i := 493) (by decide +kernel), List.mem_of_getElem? (i := 494) (by decide +kernel)⟩
theorem lw_p22 : lw_okq (⟨"HeapMover$Planner", "reachColumns", "(LHeapMover$Land;III)I"⟩, 5) := ⟨⟨by decide +kernel, by decide +kernel⟩, List.mem_of_getElem? (i := 181) (by decide +kernel), List.mem_of_getElem? (i := 497) (by decide +kernel), List.mem_of_getElem? (i := 498) (by decide +kernel)⟩
theorem lw_p23 : lw_okq (⟨"HeapMover$Planner", "turnRing", "(II)V"⟩, 5) := ⟨⟨by decide +kernel, by decide +kernel⟩, List.mem_of_getElem? (i := 181) (by decide +kernel), List.mem_of_getElem? (i := 501) (by decide +kernel), List.mem_of_getElem? (i := 502) (by decide +kernel)⟩
theorem lw_p24 : lw_okq (⟨"HeapMover$Planner", "ringAmount", "(II)I"⟩, 5) := ⟨⟨by decide +kernel, by decide +kernel⟩, List.mem_of_getElem? (i := 181) (by decide +kernel), List.mem_of_getElem? (i := 505) (by decide +kernel), List.mem_of_getElem? (i := 506) (by decide +kernel)⟩
theorem lw_p25 : lw_okq (⟨"HeapMover", "makeReach", "(II)V"⟩, 12) := ⟨⟨by decide +kernel, by decide +kernel⟩, List.mem_of_getElem? (i := 15) (by decide +kernel), List.mem_of_getElem? (i := 538) (by decide +kernel), List.mem_of_getElem? (i := 539) (by decide +kernel)⟩
theorem lw_p26 : lw_okq (⟨"HeapMover$Reach", "joinEnds", "(I[I[I)V"⟩, 3) := ⟨⟨by decide +kernel, by decide +kernel⟩, List.mem_of_getElem? (i := 206) (by decide +kernel), List.mem_of_getElem? (i := 546) (by decide +kernel), List.mem_of_getElem? (i := 547) (by decide +kernel)⟩
theorem lw_p27 : lw_okq (⟨"HeapMover$Reach", "joinDistance", "(LHeapMover$Land;[I[I)V"⟩, 3) := ⟨⟨by decide +kernel, by decide +kernel⟩, List.mem_of_getElem? (i := 206) (by decide +kernel), List.mem_of_getElem? (i := 553) (by decide +kernel), List.mem_of_getElem? (i := 554) (by decide +kernel)⟩
theorem lw_p28 : lw_okq (⟨"HeapMover$Reach", "noteStuck", "(I)V"⟩, 3) := ⟨⟨by decide +kernel, by decide +kernel⟩, List.mem_of_getElem? (i := 206) (by decide +kernel), List.mem_of_getElem? (i := 559) (by decide +kernel), List.mem_of_getElem? (i := 560) (by decide +kernel)⟩
theorem lw_p29 : lw_okq (⟨"HeapMoverModel", "keep", "(III)V"⟩, 31) := ⟨⟨by decide +kernel, by decide +kernel⟩, List.mem_of_getElem? (i := 634) (by decide +kernel), List.mem_of_getElem? (i := 739) (by decide +kernel), List.mem_of_getElem? (i := 740) (by decide +kernel)⟩
theorem lw_p30 : lw_okq (⟨"HeapMoverModel", "isPlace", "(I)Z"⟩, 31) := ⟨⟨by decide +kernel, by decide +kernel⟩, List.mem_of_getElem? (i := 634) (by decide +kernel), List.mem_of_getElem? (i := 747) (by decide +kernel), List.mem_of_getElem? (i := 748) (by decide +kernel)⟩
theorem lw_p31 : lw_okq (⟨"HeapMoverModel", "isHeap", "(I)Z"⟩, 31) := ⟨⟨by decide +kernel, by decide +kernel⟩, List.mem_of_getElem? (i := 634) (by decide +kernel), List.mem_of_getElem? (i := 762) (by decide +kernel), List.mem_of_getElem? (i := 763) (by decide +kernel)⟩
def lw_privs_2 : List (MethodName × Nat) := [(⟨"HeapMover$Planner", "takeGoods", "(ILHeapMover$Network;[I[I)V"⟩, 5), (⟨"HeapMover$Planner", "raiseHeights", "(LHeapMover$Land;)V"⟩, 5), (⟨"HeapMover$Planner", "lowerHeights", "(LHeapMover$Land;)Z"⟩, 5), (⟨"HeapMover$Planner", "putFirst", "(LHeapMover$Land;)V"⟩, 5), (⟨"HeapMover$Planner", "isTight", "(LHeapMover$Land;II)Z"⟩, 5), (⟨"HeapMover$Planner", "findRing", "(LHeapMover$Land;III)Z"⟩, 5), (⟨"HeapMover$Planner", "reachColumns", "(LHeapMover$Land;III)I"⟩, 5), (⟨"HeapMover$Planner", "turnRing", "(II)V"⟩, 5), (⟨"HeapMover$Planner", "ringAmount", "(II)I"⟩, 5), (⟨"HeapMover", "makeReach", "(II)V"⟩, 12), (⟨"HeapMover$Reach", "joinEnds", "(I[I[I)V"⟩, 3), (⟨"HeapMover$Reach", "joinDistance", "(LHeapMover$Land;[I[I)V"⟩, 3), (⟨"HeapMover$Reach", "noteStuck", "(I)V"⟩, 3), (⟨"HeapMoverModel", "keep", "(III)V"⟩, 31), (⟨"HeapMoverModel", "isPlace", "(I)Z"⟩, 31), (⟨"HeapMoverModel", "isHeap", "(I)Z"⟩, 31)]
theorem lw_r2 : ∀ q ∈ lw_privs_2, lw_okq q := List.forall_mem_cons.mpr ⟨lw_p16, List.forall_mem_cons.mpr ⟨lw_p17, List.forall_mem_cons.mpr ⟨lw_p18, List.forall_mem_cons.mpr ⟨lw_p19, List.forall_mem_cons.mpr ⟨lw_p20, List.forall_mem_cons.mpr ⟨lw_p21, List.forall_mem_cons.mpr ⟨lw_p22, List.forall_mem_cons.mpr ⟨lw_p23, List.forall_mem_cons.mpr ⟨lw_p24, List.forall_mem_cons.mpr ⟨lw_p25, List.forall_mem_cons.mpr ⟨lw_p26, List.forall_mem_cons.mpr ⟨lw_p27, List.forall_mem_cons.mpr ⟨lw_p28, List.forall_mem_cons.mpr ⟨lw_p29, List.forall_mem_cons.mpr ⟨lw_p30, List.forall_mem_cons.mpr ⟨lw_p31, fun _ h => absurd h List.not_mem_nil⟩⟩⟩⟩⟩⟩⟩⟩⟩⟩⟩⟩⟩⟩⟩⟩
theorem lw_p32 : lw_okq (⟨"HeapMoverModel", "findFar", "()V"⟩, 31) := ⟨⟨by decide +kernel, by decide +kernel⟩, List.mem_of_getElem? (i := 634) (by decide +kernel), List.mem_of_getElem? (i := 779) (by decide +kernel), List.mem_of_getElem? (i := 780) (by decide +kernel)⟩
theorem lw_p33 : lw_okq (⟨"HeapMoverModel", "nextTo", "(II)I"⟩, 31) := ⟨⟨by decide +kernel, by decide +kernel⟩, List.mem_of_getElem? (i := 634) (by decide +kernel), List.mem_of_getElem? (i := 788) (by decide +kernel), List.mem_of_getElem? (i := 789) (by decide +kernel)⟩
theorem lw_p34 : lw_okq (⟨"HeapMoverModel", "sumOf", "(I)I"⟩, 31) := ⟨⟨by decide +kernel, by decide +kernel⟩, List.mem_of_getElem? (i := 634) (by decide +kernel), List.mem_of_getElem? (i := 800) (by decide +kernel), List.mem_of_getElem? (i := 801) (by decide +kernel)⟩
theorem lw_p35 : lw_okq (⟨"HeapMoverModel", "against", "(II)I"⟩, 31) := ⟨⟨by decide +kernel, by decide +kernel⟩, List.mem_of_getElem? (i := 634) (by decide +kernel), List.mem_of_getElem? (i := 808) (by decide +kernel), List.mem_of_getElem? (i := 809) (by decide +kernel)⟩
theorem lw_p36 : lw_okq (⟨"HeapMoverModel", "isJoined", "()Z"⟩, 31) := ⟨⟨by decide +kernel, by decide +kernel⟩, List.mem_of_getElem? (i := 634) (by decide +kernel), List.mem_of_getElem? (i := 812) (by decide +kernel), List.mem_of_getElem? (i := 813) (by decide +kernel)⟩
theorem lw_p37 : lw_okq (⟨"HeapMoverModel", "solve", "(III)I"⟩, 31) := ⟨⟨by decide +kernel, by decide +kernel⟩, List.mem_of_getElem? (i := 634) (by decide +kernel), List.mem_of_getElem? (i := 816) (by decide +kernel), List.mem_of_getElem? (i := 817) (by decide +kernel)⟩
theorem lw_p38 : lw_okq (⟨"HeapMoverModel", "begin", "(II)V"⟩, 31) := ⟨⟨by decide +kernel, by decide +kernel⟩, List.mem_of_getElem? (i := 634) (by decide +kernel), List.mem_of_getElem? (i := 820) (by decide +kernel), List.mem_of_getElem? (i := 821) (by decide +kernel)⟩
theorem lw_p39 : lw_okq (⟨"HeapMoverModel", "findWay", "()I"⟩, 31) := ⟨⟨by decide +kernel, by decide +kernel⟩, List.mem_of_getElem? (i := 634) (by decide +kernel), List.mem_of_getElem? (i := 824) (by decide +kernel), List.mem_of_getElem? (i := 825) (by decide +kernel)⟩
theorem lw_p40 : lw_okq (⟨"HeapMoverModel", "go", "(II)I"⟩, 31) := ⟨⟨by decide +kernel, by decide +kernel⟩, List.mem_of_getElem? (i := 634) (by decide +kernel), List.mem_of_getElem? (i := 828) (by decide +kernel), List.mem_of_getElem? (i := 829) (by decide +kernel)⟩
theorem lw_p41 : lw_okq (⟨"HeapMoverModel", "costOf", "([I)I"⟩, 31) := ⟨⟨by decide +kernel, by decide +kernel⟩, List.mem_of_getElem? (i := 634) (by decide +kernel), List.mem_of_getElem? (i := 832) (by decide +kernel), List.mem_of_getElem? (i := 833) (by decide +kernel)⟩
theorem lw_p42 : lw_okq (⟨"HeapMoverModel", "findPlan", "(II)V"⟩, 31) := ⟨⟨by decide +kernel, by decide +kernel⟩, List.mem_of_getElem? (i := 634) (by decide +kernel), List.mem_of_getElem? (i := 840) (by decide +kernel), List.mem_of_getElem? (i := 841) (by decide +kernel)⟩
theorem lw_p43 : lw_okq (⟨"HeapMoverModel", "findHeights", "()V"⟩, 31) := ⟨⟨by decide +kernel, by decide +kernel⟩, List.mem_of_getElem? (i := 634) (by decide +kernel), List.mem_of_getElem? (i := 844) (by decide +kernel), List.mem_of_getElem? (i := 845) (by decide +kernel)⟩
theorem lw_p44 : lw_okq (⟨"HeapMoverModel", "loosen", "()V"⟩, 31) := ⟨⟨by decide +kernel, by decide +kernel⟩, List.mem_of_getElem? (i := 634) (by decide +kernel), List.mem_of_getElem? (i := 848) (by decide +kernel), List.mem_of_getElem? (i := 849) (by decide +kernel)⟩
theorem lw_p45 : lw_okq (⟨"HeapMoverModel", "isTight", "(II)Z"⟩, 31) := ⟨⟨by decide +kernel, by decide +kernel⟩, List.mem_of_getElem? (i := 634) (by decide +kernel), List.mem_of_getElem? (i := 852) (by decide +kernel), List.mem_of_getElem? (i := 853) (by decide +kernel)⟩
theorem lw_p46 : lw_okq (⟨"HeapMoverModel", "canTurn", "(II)Z"⟩, 31) := ⟨⟨by decide +kernel, by decide +kernel⟩, List.mem_of_getElem? (i := 634) (by decide +kernel), List.mem_of_getElem? (i := 856) (by decide +kernel), List.mem_of_getElem? (i := 857) (by decide +kernel)⟩
theorem lw_p47 : lw_okq (⟨"HeapMoverModel", "turn", "(II)V"⟩, 31) := ⟨⟨by decide +kernel, by decide +kernel⟩, List.mem_of_getElem? (i := 634) (by decide +kernel), List.mem_of_getElem? (i := 860) (by decide +kernel), List.mem_of_getElem? (i := 861) (by decide +kernel)⟩
def lw_privs_3 : List (MethodName × Nat) := [(⟨"HeapMoverModel", "findFar", "()V"⟩, 31), (⟨"HeapMoverModel", "nextTo", "(II)I"⟩, 31), (⟨"HeapMoverModel", "sumOf", "(I)I"⟩, 31), (⟨"HeapMoverModel", "against", "(II)I"⟩, 31), (⟨"HeapMoverModel", "isJoined", "()Z"⟩, 31), (⟨"HeapMoverModel", "solve", "(III)I"⟩, 31), (⟨"HeapMoverModel", "begin", "(II)V"⟩, 31), (⟨"HeapMoverModel", "findWay", "()I"⟩, 31), (⟨"HeapMoverModel", "go", "(II)I"⟩, 31), (⟨"HeapMoverModel", "costOf", "([I)I"⟩, 31), (⟨"HeapMoverModel", "findPlan", "(II)V"⟩, 31), (⟨"HeapMoverModel", "findHeights", "()V"⟩, 31), (⟨"HeapMoverModel", "loosen", "()V"⟩, 31), (⟨"HeapMoverModel", "isTight", "(II)Z"⟩, 31), (⟨"HeapMoverModel", "canTurn", "(II)Z"⟩, 31), (⟨"HeapMoverModel", "turn", "(II)V"⟩, 31)]
theorem lw_r3 : ∀ q ∈ lw_privs_3, lw_okq q := List.forall_mem_cons.mpr ⟨lw_p32, List.forall_mem_cons.mpr ⟨lw_p33, List.forall_mem_cons.mpr ⟨lw_p34, List.forall_mem_cons.mpr ⟨lw_p35, List.forall_mem_cons.mpr ⟨lw_p36, List.forall_mem_cons.mpr ⟨lw_p37, List.forall_mem_cons.mpr ⟨lw_p38, List.forall_mem_cons.mpr ⟨lw_p39, List.forall_mem_cons.mpr ⟨lw_p40, List.forall_mem_cons.mpr ⟨lw_p41, List.forall_mem_cons.mpr ⟨lw_p42, List.forall_mem_cons.mpr ⟨lw_p43, List.forall_mem_cons.mpr ⟨lw_p44, List.forall_mem_cons.mpr ⟨lw_p45, List.forall_mem_cons.mpr ⟨lw_p46, List.forall_mem_cons.mpr ⟨lw_p47, fun _ h => absurd h List.not_mem_nil⟩⟩⟩⟩⟩⟩⟩⟩⟩⟩⟩⟩⟩⟩⟩⟩
theorem lw_p48 : lw_okq (⟨"HeapMoverModel", "findFarthest", "(II)I"⟩, 31) := ⟨⟨by decide +kernel, by decide +kernel⟩, List.mem_of_getElem? (i := 634) (by decide +kernel), List.mem_of_getElem? (i := 881) (by decide +kernel), List.mem_of_getElem? (i := 882) (by decide +kernel)⟩
theorem lw_p49 : lw_okq (⟨"HeapMoverModel", "fits", "(III)Z"⟩, 31) := ⟨⟨by decide +kernel, by decide +kernel⟩, List.mem_of_getElem? (i := 634) (by decide +kernel), List.mem_of_getElem? (i := 885) (by decide +kernel), List.mem_of_getElem? (i := 886) (by decide +kernel)⟩
theorem lw_p50 : lw_okq (⟨"HeapMoverModel", "reach", "(I)I"⟩, 31) := ⟨⟨by decide +kernel, by decide +kernel⟩, List.mem_of_getElem? (i := 634) (by decide +kernel), List.mem_of_getElem? (i := 889) (by decide +kernel), List.mem_of_getElem? (i := 890) (by decide +kernel)⟩
theorem lw_p51 : lw_okq (⟨"HeapMoverModel", "arc", "(IIII)V"⟩, 31) := ⟨⟨by decide +kernel, by decide +kernel⟩, List.mem_of_getElem? (i := 634) (by decide +kernel), List.mem_of_getElem? (i := 905) (by decide +kernel), List.mem_of_getElem? (i := 906) (by decide +kernel)⟩
theorem lw_p52 : lw_okq (⟨"HeapMoverModel", "hasNetWay", "()Z"⟩, 31) := ⟨⟨by decide +kernel, by decide +kernel⟩, List.mem_of_getElem? (i := 634) (by decide +kernel), List.mem_of_getElem? (i := 909) (by decide +kernel), List.mem_of_getElem? (i := 910) (by decide +kernel)⟩
theorem lw_p53 : lw_okq (⟨"HeapMoverModel", "goNet", "()I"⟩, 31) := ⟨⟨by decide +kernel, by decide +kernel⟩, List.mem_of_getElem? (i := 634) (by decide +kernel), List.mem_of_getElem? (i := 913) (by decide +kernel), List.mem_of_getElem? (i := 914) (by decide +kernel)⟩
theorem lw_p54 : lw_okq (⟨"HeapMoverModel", "drafted", "(IZ)I"⟩, 31) := ⟨⟨by decide +kernel, by decide +kernel⟩, List.mem_of_getElem? (i := 634) (by decide +kernel), List.mem_of_getElem? (i := 933) (by decide +kernel), List.mem_of_getElem? (i := 934) (by decide +kernel)⟩
def lw_privs_4 : List (MethodName × Nat) := [(⟨"HeapMoverModel", "findFarthest", "(II)I"⟩, 31), (⟨"HeapMoverModel", "fits", "(III)Z"⟩, 31), (⟨"HeapMoverModel", "reach", "(I)I"⟩, 31), (⟨"HeapMoverModel", "arc", "(IIII)V"⟩, 31), (⟨"HeapMoverModel", "hasNetWay", "()Z"⟩, 31), (⟨"HeapMoverModel", "goNet", "()I"⟩, 31), (⟨"HeapMoverModel", "drafted", "(IZ)I"⟩, 31)]
theorem lw_r4 : ∀ q ∈ lw_privs_4, lw_okq q := List.forall_mem_cons.mpr ⟨lw_p48, List.forall_mem_cons.mpr ⟨lw_p49, List.forall_mem_cons.mpr ⟨lw_p50, List.forall_mem_cons.mpr ⟨lw_p51, List.forall_mem_cons.mpr ⟨lw_p52, List.forall_mem_cons.mpr ⟨lw_p53, List.forall_mem_cons.mpr ⟨lw_p54, fun _ h => absurd h List.not_mem_nil⟩⟩⟩⟩⟩⟩⟩
def lw_privs : List (MethodName × Nat) := lw_privs_1 ++ (lw_privs_2 ++ (lw_privs_3 ++ (lw_privs_4)))
def lw_tbl : List Cond := k2_sels lw_privs ++ tables_1
theorem lw_privs_ok : ∀ q ∈ lw_privs, lw_okq q := by
  show ∀ q ∈ lw_privs_1 ++ (lw_privs_2 ++ (lw_privs_3 ++ (lw_privs_4))), lw_okq q
  exact List.forall_mem_append.mpr ⟨lw_r1, List.forall_mem_append.mpr ⟨lw_r2, List.forall_mem_append.mpr ⟨lw_r3, lw_r4⟩⟩⟩
-- ===== end of PART A; then your names; then what follows =====
end
section
/-! ===== BEGIN words of one list among another's, by their places ===== -/
theorem goodIn_r {big : List Cond} (ws : List Cond) (ps : List Nat) (hp : ws = ps.filterMap (fun i => big[i]?)) (h : ws.all goodWord = true) : GoodIn big ws := by
  intro w hw
  have h1 := List.all_eq_true.mp h w hw
  rw [hp] at hw
  obtain ⟨i, -, hi⟩ := List.mem_filterMap.mp hw
  have hm : w ∈ big := by first | exact List.mem_of_getElem? hi | exact List.getElem?_mem hi
  exact ⟨hm, good_of_word h1⟩
theorem goodIn_app {big a b : List Cond} (ha : GoodIn big a) (hb : GoodIn big b) : GoodIn big (a ++ b) := fun w h => (List.mem_append.mp h).elim (ha w) (hb w)
theorem goodIn_ca {big a b : List Cond} {c : Cond} (ha : GoodIn big (c :: a)) (hb : GoodIn big b) : GoodIn big (c :: (a ++ b)) := fun w h => (List.mem_cons.mp h).elim (fun e => ha w (List.mem_cons.mpr (Or.inl e))) (fun h => (List.mem_append.mp h).elim (fun h => ha w (List.mem_cons.mpr (Or.inr h))) (hb w))
theorem goodIn_sub {big ws : List Cond} (hm : ∀ w ∈ ws, w ∈ big) (h : ws.all goodWord = true) : GoodIn big ws := fun w hw => ⟨hm w hw, good_of_word (List.all_eq_true.mp h w hw)⟩
/-! ===== END ===== -/

/-! ===== BEGIN printed: names, fields, word lists, decode rows ===== -/
def RX0 : String := "HeapMover$Changes"
def TX0 : u_T := fun k => match k with
  | 0 => ("HeapMover$Changes", "kept", "I", false)
  | 1 => ("HeapMover$Changes", "oldest", "I", false)
  | 2 => ("HeapMover$Changes", "kinds", "[I", true)
  | 3 => ("HeapMover$Changes", "firsts", "[I", true)
  | 4 => ("HeapMover$Changes", "seconds", "[I", true)
  | _ => ("HeapMover$Changes", "befores", "[I", true)
def tyX0 : Nat → FieldType := fun k => match k with
  | 0 => .int
  | 1 => .int
  | 2 => .array .int
  | 3 => .array .int
  | 4 => .array .int
  | _ => .array .int
abbrev wsX00 : List Cond := u_ws RX0 TX0 6
theorem nmX0 : ∀ a, a < 6 → ∀ b, b < 6 → a ≠ b → (TX0 a).2.1 ≠ (TX0 b).2.1 := by decide +kernel
theorem tyX0_ok : ∀ k, k < 6 → parseFieldDescriptor (TX0 k).2.2.1 = some (tyX0 k) := by decide +kernel
abbrev cX0_init : ByteArray := prog_2_method_1_code
def yX0_init : MethodName := ⟨RX0, "<init>", "()V"⟩
abbrev cX0_keep : ByteArray := prog_2_method_2_code
def yX0_keep : MethodName := ⟨RX0, "keep", "(IIII)V"⟩
abbrev cX0_dropLatest : ByteArray := prog_2_method_3_code
def yX0_dropLatest : MethodName := ⟨RX0, "dropLatest", "()I"⟩
def RX1 : String := "HeapMover$Draft"
def TX1 : u_T := fun k => match k with
  | _ => ("HeapMover$Draft", "numbers", "[[I", true)
def tyX1 : Nat → FieldType := fun k => match k with
  | _ => .array (.array .int)
abbrev wsX10 : List Cond := u_ws RX1 TX1 1
theorem nmX1 : ∀ a, a < 1 → ∀ b, b < 1 → a ≠ b → (TX1 a).2.1 ≠ (TX1 b).2.1 := by decide +kernel
theorem tyX1_ok : ∀ k, k < 1 → parseFieldDescriptor (TX1 k).2.2.1 = some (tyX1 k) := by decide +kernel
abbrev cX1_init : ByteArray := prog_3_method_1_code
def yX1_init : MethodName := ⟨RX1, "<init>", "()V"⟩
abbrev cX1_wipe : ByteArray := prog_3_method_2_code
def yX1_wipe : MethodName := ⟨RX1, "wipe", "()V"⟩
abbrev cX1_wipePlace : ByteArray := prog_3_method_3_code
def yX1_wipePlace : MethodName := ⟨RX1, "wipePlace", "(I)V"⟩
abbrev cX1_others : ByteArray := prog_3_method_4_code
def yX1_others : MethodName := ⟨RX1, "others", "()I"⟩
abbrev cX1_firstWrongFrom : ByteArray := prog_3_method_5_code
def yX1_firstWrongFrom : MethodName := ⟨RX1, "firstWrongFrom", "(I[I)I"⟩
abbrev cX1_firstWrongTo : ByteArray := prog_3_method_6_code
def yX1_firstWrongTo : MethodName := ⟨RX1, "firstWrongTo", "(I[I)I"⟩
abbrev cX1_cost : ByteArray := prog_3_method_7_code
def yX1_cost : MethodName := ⟨RX1, "cost", "(LHeapMover$Land;)I"⟩
def RX2 : String := "HeapMover$Heaps"
def TX2 : u_T := fun k => match k with
  | 0 => ("HeapMover$Heaps", "made", "I", false)
  | _ => ("HeapMover$Heaps", "amounts", "[[I", true)
def tyX2 : Nat → FieldType := fun k => match k with
  | 0 => .int
  | _ => .array (.array .int)
abbrev wsX20 : List Cond := u_ws RX2 TX2 2
theorem nmX2 : ∀ a, a < 2 → ∀ b, b < 2 → a ≠ b → (TX2 a).2.1 ≠ (TX2 b).2.1 := by decide +kernel
theorem tyX2_ok : ∀ k, k < 2 → parseFieldDescriptor (TX2 k).2.2.1 = some (tyX2 k) := by decide +kernel
abbrev cX2_init : ByteArray := prog_4_method_1_code
def yX2_init : MethodName := ⟨RX2, "<init>", "()V"⟩
abbrev cX2_has : ByteArray := prog_4_method_2_code
def yX2_has : MethodName := ⟨RX2, "has", "(I)Z"⟩
abbrev cX2_total : ByteArray := prog_4_method_3_code
def yX2_total : MethodName := ⟨RX2, "total", "(I)I"⟩
def RX3 : String := "HeapMover$Land"
def TX3 : u_T := fun k => match k with
  | 0 => ("HeapMover$Land", "places", "I", false)
  | 1 => ("HeapMover$Land", "roads", "I", false)
  | 2 => ("HeapMover$Land", "starts", "[I", true)
  | 3 => ("HeapMover$Land", "ends", "[I", true)
  | 4 => ("HeapMover$Land", "lengths", "[I", true)
  | 5 => ("HeapMover$Land", "bounds", "[I", true)
  | 6 => ("HeapMover$Land", "directs", "[[I", true)
  | _ => ("HeapMover$Land", "distances", "[[I", true)
def tyX3 : Nat → FieldType := fun k => match k with
  | 0 => .int
  | 1 => .int
  | 2 => .array .int
  | 3 => .array .int
  | 4 => .array .int
  | 5 => .array .int
  | 6 => .array (.array .int)
  | _ => .array (.array .int)
abbrev wsX30 : List Cond := u_ws RX3 TX3 8
theorem nmX3 : ∀ a, a < 8 → ∀ b, b < 8 → a ≠ b → (TX3 a).2.1 ≠ (TX3 b).2.1 := by decide +kernel
theorem tyX3_ok : ∀ k, k < 8 → parseFieldDescriptor (TX3 k).2.2.1 = some (tyX3 k) := by decide +kernel
abbrev cX3_init : ByteArray := prog_5_method_1_code
def yX3_init : MethodName := ⟨RX3, "<init>", "()V"⟩
abbrev cX3_has : ByteArray := prog_5_method_2_code
def yX3_has : MethodName := ⟨RX3, "has", "(I)Z"⟩
abbrev cX3_addPlace : ByteArray := prog_5_method_3_code
def yX3_addPlace : MethodName := ⟨RX3, "addPlace", "()I"⟩
abbrev cX3_dropPlace : ByteArray := prog_5_method_4_code
def yX3_dropPlace : MethodName := ⟨RX3, "dropPlace", "()V"⟩
abbrev cX3_addRoad : ByteArray := prog_5_method_5_code
def yX3_addRoad : MethodName := ⟨RX3, "addRoad", "(III)I"⟩
abbrev cX3_dropRoad : ByteArray := prog_5_method_6_code
def yX3_dropRoad : MethodName := ⟨RX3, "dropRoad", "()V"⟩
abbrev cX3_gates : ByteArray := prog_5_method_7_code
def yX3_gates : MethodName := ⟨RX3, "gates", "()I"⟩
abbrev cX3_isJoined : ByteArray := prog_5_method_8_code
def yX3_isJoined : MethodName := ⟨RX3, "isJoined", "()Z"⟩
abbrev cX3_placeBehind : ByteArray := prog_5_method_9_code
def yX3_placeBehind : MethodName := ⟨RX3, "placeBehind", "(II)I"⟩
abbrev cX3_measure : ByteArray := prog_5_method_10_code
def yX3_measure : MethodName := ⟨RX3, "measure", "()V"⟩
abbrev cX3_measureRoads : ByteArray := prog_5_method_11_code
def yX3_measureRoads : MethodName := ⟨RX3, "measureRoads", "()V"⟩
abbrev cX3_shortenBy : ByteArray := prog_5_method_12_code
def yX3_shortenBy : MethodName := ⟨RX3, "shortenBy", "(II)V"⟩
def RX4 : String := "HeapMover$Mover"
def TX4 : u_T := fun k => match k with
  | _ => ("HeapMover$Mover", "network", "LHeapMover$Network;", true)
def tyX4 : Nat → FieldType := fun k => match k with
  | _ => .object "HeapMover$Network"
abbrev wsX40 : List Cond := u_ws RX4 TX4 1
theorem nmX4 : ∀ a, a < 1 → ∀ b, b < 1 → a ≠ b → (TX4 a).2.1 ≠ (TX4 b).2.1 := by decide +kernel
theorem tyX4_ok : ∀ k, k < 1 → parseFieldDescriptor (TX4 k).2.2.1 = some (tyX4 k) := by decide +kernel
abbrev cX4_init : ByteArray := prog_6_method_1_code
def yX4_init : MethodName := ⟨RX4, "<init>", "()V"⟩
abbrev cX4_cheapest : ByteArray := prog_6_method_2_code
def yX4_cheapest : MethodName := ⟨RX4, "cheapest", "(LHeapMover$Land;[I[II)I"⟩
abbrev cX4_cheapestThroughGates : ByteArray := prog_6_method_3_code
def yX4_cheapestThroughGates : MethodName := ⟨RX4, "cheapestThroughGates", "(LHeapMover$Land;[I[I)I"⟩
abbrev cX4_joinSource : ByteArray := prog_6_method_4_code
def yX4_joinSource : MethodName := ⟨RX4, "joinSource", "(I[I[I)I"⟩
abbrev cX4_joinSink : ByteArray := prog_6_method_5_code
def yX4_joinSink : MethodName := ⟨RX4, "joinSink", "(I[I[I)V"⟩
abbrev cX4_staying : ByteArray := prog_6_method_6_code
def yX4_staying : MethodName := ⟨RX4, "staying", "(I[I[I)I"⟩
def RX5 : String := "HeapMover$Network"
def TX5 : u_T := fun k => match k with
  | 0 => ("HeapMover$Network", "arcs", "I", false)
  | 1 => ("HeapMover$Network", "moved", "I", false)
  | 2 => ("HeapMover$Network", "spent", "I", false)
  | 3 => ("HeapMover$Network", "tails", "[I", true)
  | 4 => ("HeapMover$Network", "heads", "[I", true)
  | 5 => ("HeapMover$Network", "rooms", "[I", true)
  | 6 => ("HeapMover$Network", "prices", "[I", true)
  | 7 => ("HeapMover$Network", "costs", "[I", true)
  | _ => ("HeapMover$Network", "lastArcs", "[I", true)
def tyX5 : Nat → FieldType := fun k => match k with
  | 0 => .int
  | 1 => .int
  | 2 => .int
  | 3 => .array .int
  | 4 => .array .int
  | 5 => .array .int
  | 6 => .array .int
  | 7 => .array .int
  | _ => .array .int
abbrev wsX50 : List Cond := u_ws RX5 TX5 9
theorem nmX5 : ∀ a, a < 9 → ∀ b, b < 9 → a ≠ b → (TX5 a).2.1 ≠ (TX5 b).2.1 := by decide +kernel
theorem tyX5_ok : ∀ k, k < 9 → parseFieldDescriptor (TX5 k).2.2.1 = some (tyX5 k) := by decide +kernel
abbrev cX5_init : ByteArray := prog_7_method_1_code
def yX5_init : MethodName := ⟨RX5, "<init>", "()V"⟩
abbrev cX5_empty : ByteArray := prog_7_method_2_code
def yX5_empty : MethodName := ⟨RX5, "empty", "()V"⟩
abbrev cX5_join : ByteArray := prog_7_method_3_code
def yX5_join : MethodName := ⟨RX5, "join", "(IIII)V"⟩
abbrev cX5_push : ByteArray := prog_7_method_4_code
def yX5_push : MethodName := ⟨RX5, "push", "(I)V"⟩
abbrev cX5_isReached : ByteArray := prog_7_method_5_code
def yX5_isReached : MethodName := ⟨RX5, "isReached", "(I)Z"⟩
abbrev cX5_addArc : ByteArray := prog_7_method_6_code
def yX5_addArc : MethodName := ⟨RX5, "addArc", "(IIII)V"⟩
abbrev cX5_search : ByteArray := prog_7_method_7_code
def yX5_search : MethodName := ⟨RX5, "search", "()Z"⟩
abbrev cX5_relax : ByteArray := prog_7_method_8_code
def yX5_relax : MethodName := ⟨RX5, "relax", "()Z"⟩
abbrev cX5_carry : ByteArray := prog_7_method_9_code
def yX5_carry : MethodName := ⟨RX5, "carry", "(I)V"⟩
def RX6 : String := "HeapMover$Planner"
def TX6 : u_T := fun k => match k with
  | 0 => ("HeapMover$Planner", "goods", "[[I", true)
  | 1 => ("HeapMover$Planner", "heights", "[I", true)
  | 2 => ("HeapMover$Planner", "rowFrom", "[I", true)
  | 3 => ("HeapMover$Planner", "columnFrom", "[I", true)
  | _ => ("HeapMover$Planner", "columns", "[I", true)
def tyX6 : Nat → FieldType := fun k => match k with
  | 0 => .array (.array .int)
  | 1 => .array .int
  | 2 => .array .int
  | 3 => .array .int
  | _ => .array .int
abbrev wsX60 : List Cond := u_ws RX6 TX6 5
theorem nmX6 : ∀ a, a < 5 → ∀ b, b < 5 → a ≠ b → (TX6 a).2.1 ≠ (TX6 b).2.1 := by decide +kernel
theorem tyX6_ok : ∀ k, k < 5 → parseFieldDescriptor (TX6 k).2.2.1 = some (tyX6 k) := by decide +kernel
abbrev cX6_init : ByteArray := prog_8_method_1_code
def yX6_init : MethodName := ⟨RX6, "<init>", "()V"⟩
abbrev cX6_make : ByteArray := prog_8_method_2_code
def yX6_make : MethodName := ⟨RX6, "make", "(LHeapMover$Land;LHeapMover$Mover;[I[II)V"⟩
abbrev cX6_isTight : ByteArray := prog_8_method_3_code
def yX6_isTight : MethodName := ⟨RX6, "isTight", "(LHeapMover$Land;II)Z"⟩
abbrev cX6_takeGoods : ByteArray := prog_8_method_4_code
def yX6_takeGoods : MethodName := ⟨RX6, "takeGoods", "(ILHeapMover$Network;[I[I)V"⟩
abbrev cX6_raiseHeights : ByteArray := prog_8_method_5_code
def yX6_raiseHeights : MethodName := ⟨RX6, "raiseHeights", "(LHeapMover$Land;)V"⟩
abbrev cX6_lowerHeights : ByteArray := prog_8_method_6_code
def yX6_lowerHeights : MethodName := ⟨RX6, "lowerHeights", "(LHeapMover$Land;)Z"⟩
abbrev cX6_putFirst : ByteArray := prog_8_method_7_code
def yX6_putFirst : MethodName := ⟨RX6, "putFirst", "(LHeapMover$Land;)V"⟩
abbrev cX6_hasOther : ByteArray := prog_8_method_8_code
def yX6_hasOther : MethodName := ⟨RX6, "hasOther", "(LHeapMover$Land;)Z"⟩
abbrev cX6_cell : ByteArray := prog_8_method_9_code
def yX6_cell : MethodName := ⟨RX6, "cell", "(II)I"⟩
abbrev cX6_findRing : ByteArray := prog_8_method_10_code
def yX6_findRing : MethodName := ⟨RX6, "findRing", "(LHeapMover$Land;III)Z"⟩
abbrev cX6_reachColumns : ByteArray := prog_8_method_11_code
def yX6_reachColumns : MethodName := ⟨RX6, "reachColumns", "(LHeapMover$Land;III)I"⟩
abbrev cX6_turnRing : ByteArray := prog_8_method_12_code
def yX6_turnRing : MethodName := ⟨RX6, "turnRing", "(II)V"⟩
abbrev cX6_ringAmount : ByteArray := prog_8_method_13_code
def yX6_ringAmount : MethodName := ⟨RX6, "ringAmount", "(II)I"⟩
abbrev cX6_carried : ByteArray := prog_8_method_14_code
def yX6_carried : MethodName := ⟨RX6, "carried", "(LHeapMover$Land;II)I"⟩
abbrev cX6_passes : ByteArray := prog_8_method_15_code
def yX6_passes : MethodName := ⟨RX6, "passes", "(LHeapMover$Land;III)Z"⟩
def RX7 : String := "HeapMover$Reach"
def TX7 : u_T := fun k => match k with
  | 0 => ("HeapMover$Reach", "farthest", "I", false)
  | 1 => ("HeapMover$Reach", "stuck", "[I", true)
  | _ => ("HeapMover$Reach", "network", "LHeapMover$Network;", true)
def tyX7 : Nat → FieldType := fun k => match k with
  | 0 => .int
  | 1 => .array .int
  | _ => .object "HeapMover$Network"
abbrev wsX70 : List Cond := u_ws RX7 TX7 3
theorem nmX7 : ∀ a, a < 3 → ∀ b, b < 3 → a ≠ b → (TX7 a).2.1 ≠ (TX7 b).2.1 := by decide +kernel
theorem tyX7_ok : ∀ k, k < 3 → parseFieldDescriptor (TX7 k).2.2.1 = some (tyX7 k) := by decide +kernel
abbrev cX7_init : ByteArray := prog_9_method_1_code
def yX7_init : MethodName := ⟨RX7, "<init>", "()V"⟩
abbrev cX7_make : ByteArray := prog_9_method_2_code
def yX7_make : MethodName := ⟨RX7, "make", "(LHeapMover$Land;[I[II)V"⟩
abbrev cX7_joinEnds : ByteArray := prog_9_method_3_code
def yX7_joinEnds : MethodName := ⟨RX7, "joinEnds", "(I[I[I)V"⟩
abbrev cX7_joinDistance : ByteArray := prog_9_method_4_code
def yX7_joinDistance : MethodName := ⟨RX7, "joinDistance", "(LHeapMover$Land;[I[I)V"⟩
abbrev cX7_noteStuck : ByteArray := prog_9_method_5_code
def yX7_noteStuck : MethodName := ⟨RX7, "noteStuck", "(I)V"⟩
abbrev cX7_distanceAbove : ByteArray := prog_9_method_6_code
def yX7_distanceAbove : MethodName := ⟨RX7, "distanceAbove", "(LHeapMover$Land;I)I"⟩
def RX8 : String := "HeapMover"
def TX8 : u_T := fun k => match k with
  | 0 => ("HeapMover", "land", "LHeapMover$Land;", true)
  | 1 => ("HeapMover", "heaps", "LHeapMover$Heaps;", true)
  | 2 => ("HeapMover", "changes", "LHeapMover$Changes;", true)
  | 3 => ("HeapMover", "drafted", "LHeapMover$Draft;", true)
  | 4 => ("HeapMover", "mover", "LHeapMover$Mover;", true)
  | 5 => ("HeapMover", "planner", "LHeapMover$Planner;", true)
  | 6 => ("HeapMover", "reach", "LHeapMover$Reach;", true)
  | 7 => ("HeapMover", "plannedFrom", "I", false)
  | 8 => ("HeapMover", "plannedTo", "I", false)
  | 9 => ("HeapMover", "reachedFrom", "I", false)
  | 10 => ("HeapMover", "reachedTo", "I", false)
  | _ => ("HeapMover", "told", "I", false)
def tyX8 : Nat → FieldType := fun k => match k with
  | 0 => .object "HeapMover$Land"
  | 1 => .object "HeapMover$Heaps"
  | 2 => .object "HeapMover$Changes"
  | 3 => .object "HeapMover$Draft"
  | 4 => .object "HeapMover$Mover"
  | 5 => .object "HeapMover$Planner"
  | 6 => .object "HeapMover$Reach"
  | 7 => .int
  | 8 => .int
  | 9 => .int
  | 10 => .int
  | _ => .int
abbrev wsX80 : List Cond := u_ws RX8 TX8 12
theorem nmX8 : ∀ a, a < 12 → ∀ b, b < 12 → a ≠ b → (TX8 a).2.1 ≠ (TX8 b).2.1 := by decide +kernel
theorem tyX8_ok : ∀ k, k < 12 → parseFieldDescriptor (TX8 k).2.2.1 = some (tyX8 k) := by decide +kernel
abbrev cX8_init : ByteArray := prog_1_method_1_code
def yX8_init : MethodName := ⟨RX8, "<init>", "()V"⟩
abbrev cX8_place : ByteArray := prog_1_method_2_code
def yX8_place : MethodName := ⟨RX8, "place", "()I"⟩
abbrev cX8_road : ByteArray := prog_1_method_3_code
def yX8_road : MethodName := ⟨RX8, "road", "(III)I"⟩
abbrev cX8_heap : ByteArray := prog_1_method_4_code
def yX8_heap : MethodName := ⟨RX8, "heap", "()I"⟩
abbrev cX8_set : ByteArray := prog_1_method_5_code
def yX8_set : MethodName := ⟨RX8, "set", "(III)I"⟩
abbrev cX8_gate : ByteArray := prog_1_method_6_code
def yX8_gate : MethodName := ⟨RX8, "gate", "(II)I"⟩
abbrev cX8_undo : ByteArray := prog_1_method_7_code
def yX8_undo : MethodName := ⟨RX8, "undo", "()I"⟩
abbrev cX8_apart : ByteArray := prog_1_method_8_code
def yX8_apart : MethodName := ⟨RX8, "apart", "(II)I"⟩
abbrev cX8_next : ByteArray := prog_1_method_9_code
def yX8_next : MethodName := ⟨RX8, "next", "(II)I"⟩
abbrev cX8_amount : ByteArray := prog_1_method_10_code
def yX8_amount : MethodName := ⟨RX8, "amount", "(II)I"⟩
abbrev cX8_sum : ByteArray := prog_1_method_11_code
def yX8_sum : MethodName := ⟨RX8, "sum", "(I)I"⟩
abbrev cX8_least : ByteArray := prog_1_method_12_code
def yX8_least : MethodName := ⟨RX8, "least", "(II)I"⟩
abbrev cX8_plan : ByteArray := prog_1_method_13_code
def yX8_plan : MethodName := ⟨RX8, "plan", "(IIII)I"⟩
abbrev cX8_alone : ByteArray := prog_1_method_14_code
def yX8_alone : MethodName := ⟨RX8, "alone", "(II)I"⟩
abbrev cX8_height : ByteArray := prog_1_method_15_code
def yX8_height : MethodName := ⟨RX8, "height", "(III)I"⟩
abbrev cX8_load : ByteArray := prog_1_method_16_code
def yX8_load : MethodName := ⟨RX8, "load", "(IIII)I"⟩
abbrev cX8_far : ByteArray := prog_1_method_17_code
def yX8_far : MethodName := ⟨RX8, "far", "(II)I"⟩
abbrev cX8_shown : ByteArray := prog_1_method_18_code
def yX8_shown : MethodName := ⟨RX8, "shown", "(III)I"⟩
abbrev cX8_some : ByteArray := prog_1_method_19_code
def yX8_some : MethodName := ⟨RX8, "some", "(III)I"⟩
abbrev cX8_gated : ByteArray := prog_1_method_20_code
def yX8_gated : MethodName := ⟨RX8, "gated", "(II)I"⟩
abbrev cX8_draft : ByteArray := prog_1_method_21_code
def yX8_draft : MethodName := ⟨RX8, "draft", "(III)I"⟩
abbrev cX8_clear : ByteArray := prog_1_method_22_code
def yX8_clear : MethodName := ⟨RX8, "clear", "()I"⟩
abbrev cX8_copy : ByteArray := prog_1_method_23_code
def yX8_copy : MethodName := ⟨RX8, "copy", "(II)I"⟩
abbrev cX8_judge : ByteArray := prog_1_method_24_code
def yX8_judge : MethodName := ⟨RX8, "judge", "(II)I"⟩
abbrev cX8_beside : ByteArray := prog_1_method_25_code
def yX8_beside : MethodName := ⟨RX8, "beside", "()I"⟩
abbrev cX8_count : ByteArray := prog_1_method_26_code
def yX8_count : MethodName := ⟨RX8, "count", "(I)I"⟩
abbrev cX8_refusalOfMoving : ByteArray := prog_1_method_27_code
def yX8_refusalOfMoving : MethodName := ⟨RX8, "refusalOfMoving", "(II)I"⟩
abbrev cX8_refusalAtPlaces : ByteArray := prog_1_method_28_code
def yX8_refusalAtPlaces : MethodName := ⟨RX8, "refusalAtPlaces", "(IIII)I"⟩
abbrev cX8_leastCost : ByteArray := prog_1_method_29_code
def yX8_leastCost : MethodName := ⟨RX8, "leastCost", "(II)I"⟩
abbrev cX8_makePlan : ByteArray := prog_1_method_30_code
def yX8_makePlan : MethodName := ⟨RX8, "makePlan", "(II)V"⟩
abbrev cX8_makeReach : ByteArray := prog_1_method_31_code
def yX8_makeReach : MethodName := ⟨RX8, "makeReach", "(II)V"⟩
abbrev cX8_noteChange : ByteArray := prog_1_method_32_code
def yX8_noteChange : MethodName := ⟨RX8, "noteChange", "(IIII)V"⟩
abbrev cX8_forgetResults : ByteArray := prog_1_method_33_code
def yX8_forgetResults : MethodName := ⟨RX8, "forgetResults", "()V"⟩
abbrev cX8_takeBack : ByteArray := prog_1_method_34_code
def yX8_takeBack : MethodName := ⟨RX8, "takeBack", "(I)V"⟩
def RX9 : String := "HeapMoverModel"
def TX9 : u_T := fun k => match k with
  | 0 => ("HeapMoverModel", "places", "I", false)
  | 1 => ("HeapMoverModel", "roads", "I", false)
  | 2 => ("HeapMoverModel", "roadU", "[I", true)
  | 3 => ("HeapMoverModel", "roadV", "[I", true)
  | 4 => ("HeapMoverModel", "roadLength", "[I", true)
  | 5 => ("HeapMoverModel", "heaps", "I", false)
  | 6 => ("HeapMoverModel", "amounts", "[I", true)
  | 7 => ("HeapMoverModel", "bounds", "[I", true)
  | 8 => ("HeapMoverModel", "drafts", "[I", true)
  | 9 => ("HeapMoverModel", "beside", "I", false)
  | 10 => ("HeapMoverModel", "kept", "I", false)
  | 11 => ("HeapMoverModel", "keptWhat", "[I", true)
  | 12 => ("HeapMoverModel", "keptAt", "[I", true)
  | 13 => ("HeapMoverModel", "keptWas", "[I", true)
  | 14 => ("HeapMoverModel", "far", "[I", true)
  | 15 => ("HeapMoverModel", "flow", "[I", true)
  | 16 => ("HeapMoverModel", "supply", "[I", true)
  | 17 => ("HeapMoverModel", "demand", "[I", true)
  | 18 => ("HeapMoverModel", "heights", "[I", true)
  | 19 => ("HeapMoverModel", "dear", "[I", true)
  | 20 => ("HeapMoverModel", "came", "[I", true)
  | 21 => ("HeapMoverModel", "isFixed", "[Z", true)
  | 22 => ("HeapMoverModel", "isSeen", "[Z", true)
  | 23 => ("HeapMoverModel", "queue", "[I", true)
  | 24 => ("HeapMoverModel", "arcs", "I", false)
  | 25 => ("HeapMoverModel", "arcFrom", "[I", true)
  | 26 => ("HeapMoverModel", "arcTo", "[I", true)
  | 27 => ("HeapMoverModel", "arcRoom", "[I", true)
  | 28 => ("HeapMoverModel", "arcCost", "[I", true)
  | 29 => ("HeapMoverModel", "netDear", "[I", true)
  | _ => ("HeapMoverModel", "netCame", "[I", true)
def tyX9 : Nat → FieldType := fun k => match k with
  | 0 => .int
  | 1 => .int
  | 2 => .array .int
  | 3 => .array .int
  | 4 => .array .int
  | 5 => .int
  | 6 => .array .int
  | 7 => .array .int
  | 8 => .array .int
  | 9 => .int
  | 10 => .int
  | 11 => .array .int
  | 12 => .array .int
  | 13 => .array .int
  | 14 => .array .int
  | 15 => .array .int
  | 16 => .array .int
  | 17 => .array .int
  | 18 => .array .int
  | 19 => .array .int
  | 20 => .array .int
  | 21 => .array .boolean
  | 22 => .array .boolean
  | 23 => .array .int
  | 24 => .int
  | 25 => .array .int
  | 26 => .array .int
  | 27 => .array .int
  | 28 => .array .int
  | 29 => .array .int
  | _ => .array .int
abbrev wsX90 : List Cond := u_ws RX9 TX9 31
theorem nmX9 : ∀ a, a < 31 → ∀ b, b < 31 → a ≠ b → (TX9 a).2.1 ≠ (TX9 b).2.1 := by decide +kernel
theorem tyX9_ok : ∀ k, k < 31 → parseFieldDescriptor (TX9 k).2.2.1 = some (tyX9 k) := by decide +kernel
abbrev cX9_init : ByteArray := prog_11_method_1_code
def yX9_init : MethodName := ⟨RX9, "<init>", "()V"⟩
abbrev cX9_in : ByteArray := prog_11_method_2_code
def yX9_in : MethodName := ⟨RX9, "in", "(III)Z"⟩
abbrev cX9_isPlace : ByteArray := prog_11_method_3_code
def yX9_isPlace : MethodName := ⟨RX9, "isPlace", "(I)Z"⟩
abbrev cX9_isHeap : ByteArray := prog_11_method_4_code
def yX9_isHeap : MethodName := ⟨RX9, "isHeap", "(I)Z"⟩
abbrev cX9_keep : ByteArray := prog_11_method_5_code
def yX9_keep : MethodName := ⟨RX9, "keep", "(III)V"⟩
abbrev cX9_place : ByteArray := prog_11_method_6_code
def yX9_place : MethodName := ⟨RX9, "place", "()I"⟩
abbrev cX9_road : ByteArray := prog_11_method_7_code
def yX9_road : MethodName := ⟨RX9, "road", "(III)I"⟩
abbrev cX9_heap : ByteArray := prog_11_method_8_code
def yX9_heap : MethodName := ⟨RX9, "heap", "()I"⟩
abbrev cX9_set : ByteArray := prog_11_method_9_code
def yX9_set : MethodName := ⟨RX9, "set", "(III)I"⟩
abbrev cX9_gate : ByteArray := prog_11_method_10_code
def yX9_gate : MethodName := ⟨RX9, "gate", "(II)I"⟩
abbrev cX9_undo : ByteArray := prog_11_method_11_code
def yX9_undo : MethodName := ⟨RX9, "undo", "()I"⟩
abbrev cX9_findFar : ByteArray := prog_11_method_12_code
def yX9_findFar : MethodName := ⟨RX9, "findFar", "()V"⟩
abbrev cX9_isJoined : ByteArray := prog_11_method_13_code
def yX9_isJoined : MethodName := ⟨RX9, "isJoined", "()Z"⟩
abbrev cX9_apart : ByteArray := prog_11_method_14_code
def yX9_apart : MethodName := ⟨RX9, "apart", "(II)I"⟩
abbrev cX9_nextTo : ByteArray := prog_11_method_15_code
def yX9_nextTo : MethodName := ⟨RX9, "nextTo", "(II)I"⟩
abbrev cX9_next : ByteArray := prog_11_method_16_code
def yX9_next : MethodName := ⟨RX9, "next", "(II)I"⟩
abbrev cX9_amount : ByteArray := prog_11_method_17_code
def yX9_amount : MethodName := ⟨RX9, "amount", "(II)I"⟩
abbrev cX9_sumOf : ByteArray := prog_11_method_18_code
def yX9_sumOf : MethodName := ⟨RX9, "sumOf", "(I)I"⟩
abbrev cX9_sum : ByteArray := prog_11_method_19_code
def yX9_sum : MethodName := ⟨RX9, "sum", "(I)I"⟩
abbrev cX9_begin : ByteArray := prog_11_method_20_code
def yX9_begin : MethodName := ⟨RX9, "begin", "(II)V"⟩
abbrev cX9_findWay : ByteArray := prog_11_method_21_code
def yX9_findWay : MethodName := ⟨RX9, "findWay", "()I"⟩
abbrev cX9_go : ByteArray := prog_11_method_22_code
def yX9_go : MethodName := ⟨RX9, "go", "(II)I"⟩
abbrev cX9_costOf : ByteArray := prog_11_method_23_code
def yX9_costOf : MethodName := ⟨RX9, "costOf", "([I)I"⟩
abbrev cX9_solve : ByteArray := prog_11_method_24_code
def yX9_solve : MethodName := ⟨RX9, "solve", "(III)I"⟩
abbrev cX9_against : ByteArray := prog_11_method_25_code
def yX9_against : MethodName := ⟨RX9, "against", "(II)I"⟩
abbrev cX9_least : ByteArray := prog_11_method_26_code
def yX9_least : MethodName := ⟨RX9, "least", "(II)I"⟩
abbrev cX9_findHeights : ByteArray := prog_11_method_27_code
def yX9_findHeights : MethodName := ⟨RX9, "findHeights", "()V"⟩
abbrev cX9_isTight : ByteArray := prog_11_method_28_code
def yX9_isTight : MethodName := ⟨RX9, "isTight", "(II)Z"⟩
abbrev cX9_canTurn : ByteArray := prog_11_method_29_code
def yX9_canTurn : MethodName := ⟨RX9, "canTurn", "(II)Z"⟩
abbrev cX9_turn : ByteArray := prog_11_method_30_code
def yX9_turn : MethodName := ⟨RX9, "turn", "(II)V"⟩
abbrev cX9_loosen : ByteArray := prog_11_method_31_code
def yX9_loosen : MethodName := ⟨RX9, "loosen", "()V"⟩
abbrev cX9_findPlan : ByteArray := prog_11_method_32_code
def yX9_findPlan : MethodName := ⟨RX9, "findPlan", "(II)V"⟩
abbrev cX9_plan : ByteArray := prog_11_method_33_code
def yX9_plan : MethodName := ⟨RX9, "plan", "(IIII)I"⟩
abbrev cX9_alone : ByteArray := prog_11_method_34_code
def yX9_alone : MethodName := ⟨RX9, "alone", "(II)I"⟩
abbrev cX9_height : ByteArray := prog_11_method_35_code
def yX9_height : MethodName := ⟨RX9, "height", "(III)I"⟩
abbrev cX9_load : ByteArray := prog_11_method_36_code
def yX9_load : MethodName := ⟨RX9, "load", "(IIII)I"⟩
abbrev cX9_fits : ByteArray := prog_11_method_37_code
def yX9_fits : MethodName := ⟨RX9, "fits", "(III)Z"⟩
abbrev cX9_reach : ByteArray := prog_11_method_38_code
def yX9_reach : MethodName := ⟨RX9, "reach", "(I)I"⟩
abbrev cX9_findFarthest : ByteArray := prog_11_method_39_code
def yX9_findFarthest : MethodName := ⟨RX9, "findFarthest", "(II)I"⟩
abbrev cX9_far : ByteArray := prog_11_method_40_code
def yX9_far : MethodName := ⟨RX9, "far", "(II)I"⟩
abbrev cX9_shown : ByteArray := prog_11_method_41_code
def yX9_shown : MethodName := ⟨RX9, "shown", "(III)I"⟩
abbrev cX9_some : ByteArray := prog_11_method_42_code
def yX9_some : MethodName := ⟨RX9, "some", "(III)I"⟩
abbrev cX9_arc : ByteArray := prog_11_method_43_code
def yX9_arc : MethodName := ⟨RX9, "arc", "(IIII)V"⟩
abbrev cX9_hasNetWay : ByteArray := prog_11_method_44_code
def yX9_hasNetWay : MethodName := ⟨RX9, "hasNetWay", "()Z"⟩
abbrev cX9_goNet : ByteArray := prog_11_method_45_code
def yX9_goNet : MethodName := ⟨RX9, "goNet", "()I"⟩
abbrev cX9_gated : ByteArray := prog_11_method_46_code
def yX9_gated : MethodName := ⟨RX9, "gated", "(II)I"⟩
abbrev cX9_draft : ByteArray := prog_11_method_47_code
def yX9_draft : MethodName := ⟨RX9, "draft", "(III)I"⟩
abbrev cX9_clear : ByteArray := prog_11_method_48_code
def yX9_clear : MethodName := ⟨RX9, "clear", "()I"⟩
abbrev cX9_copy : ByteArray := prog_11_method_49_code
def yX9_copy : MethodName := ⟨RX9, "copy", "(II)I"⟩
abbrev cX9_drafted : ByteArray := prog_11_method_50_code
def yX9_drafted : MethodName := ⟨RX9, "drafted", "(IZ)I"⟩
abbrev cX9_judge : ByteArray := prog_11_method_51_code
def yX9_judge : MethodName := ⟨RX9, "judge", "(II)I"⟩
abbrev cX9_beside : ByteArray := prog_11_method_52_code
def yX9_beside : MethodName := ⟨RX9, "beside", "()I"⟩
abbrev cX9_count : ByteArray := prog_11_method_53_code
def yX9_count : MethodName := ⟨RX9, "count", "(I)I"⟩
def RJ9 : String := "java/lang/Math"
def TJ9 : u_T := fun k => match k with
  | _ => ("", "", "", false)
def tyJ9 : Nat → FieldType := fun k => match k with
  | _ => .int
abbrev wsJ90 : List Cond := u_ws RJ9 TJ9 0
theorem nmJ9 : ∀ a, a < 0 → ∀ b, b < 0 → a ≠ b → (TJ9 a).2.1 ≠ (TJ9 b).2.1 := by decide +kernel
theorem tyJ9_ok : ∀ k, k < 0 → parseFieldDescriptor (TJ9 k).2.2.1 = some (tyJ9 k) := by decide +kernel
abbrev cJ9_min_7cf53 : ByteArray := prog_12_method_69_code
def yJ9_min_7cf53 : MethodName := ⟨RJ9, "min", "(II)I"⟩
def RJ10 : String := "java/lang/System"
def TJ10 : u_T := fun k => match k with
  | _ => ("", "", "", false)
def tyJ10 : Nat → FieldType := fun k => match k with
  | _ => .int
abbrev wsJ100 : List Cond := u_ws RJ10 TJ10 0
theorem nmJ10 : ∀ a, a < 0 → ∀ b, b < 0 → a ≠ b → (TJ10 a).2.1 ≠ (TJ10 b).2.1 := by decide +kernel
theorem tyJ10_ok : ∀ k, k < 0 → parseFieldDescriptor (TJ10 k).2.2.1 = some (tyJ10 k) := by decide +kernel
def RJ7 : String := "java/util/Arrays"
def TJ7 : u_T := fun k => match k with
  | _ => ("", "", "", false)
def tyJ7 : Nat → FieldType := fun k => match k with
  | _ => .int
abbrev wsJ70 : List Cond := u_ws RJ7 TJ7 0
theorem nmJ7 : ∀ a, a < 0 → ∀ b, b < 0 → a ≠ b → (TJ7 a).2.1 ≠ (TJ7 b).2.1 := by decide +kernel
theorem tyJ7_ok : ∀ k, k < 0 → parseFieldDescriptor (TJ7 k).2.2.1 = some (tyJ7 k) := by decide +kernel
abbrev cJ7_fill_53178 : ByteArray := prog_14_method_103_code
def yJ7_fill_53178 : MethodName := ⟨RJ7, "fill", "([II)V"⟩
def RL : String := "HeapMoverLaw"
abbrev cL_law : ByteArray := code
def yL_law : MethodName := ⟨RL, "law", "([I)Z"⟩
def wsX0_init : List Cond := .code yX0_init cX0_init 1 none :: ([.methodLink RX0 3 objectInit, .instanceMethod objectInit, .code objectInit ⟨#[0xb1]⟩ 1 none, .arrayClass .int, .fieldLink RX0 9 "HeapMover$Changes" "kinds" "[I", .fieldLink RX0 15 "HeapMover$Changes" "firsts" "[I", .fieldLink RX0 18 "HeapMover$Changes" "seconds" "[I", .fieldLink RX0 21 "HeapMover$Changes" "befores" "[I"] ++ wsX00)
def wsX0_keep : List Cond := .code yX0_keep cX0_keep 6 none :: ([.fieldLink RX0 24 "HeapMover$Changes" "oldest" "I", .fieldLink RX0 28 "HeapMover$Changes" "kept" "I", .fieldLink RX0 9 "HeapMover$Changes" "kinds" "[I", .fieldLink RX0 15 "HeapMover$Changes" "firsts" "[I", .fieldLink RX0 18 "HeapMover$Changes" "seconds" "[I", .fieldLink RX0 21 "HeapMover$Changes" "befores" "[I"] ++ wsX00)
def wsX0_dropLatest : List Cond := .code yX0_dropLatest cX0_dropLatest 1 (some .int) :: ([.fieldLink RX0 28 "HeapMover$Changes" "kept" "I", .fieldLink RX0 24 "HeapMover$Changes" "oldest" "I"] ++ wsX00)
def wsX1_init : List Cond := .code yX1_init cX1_init 1 none :: ([.methodLink RX1 3 objectInit, .instanceMethod objectInit, .code objectInit ⟨#[0xb1]⟩ 1 none, .classLink RX1 9 "[[I", .arrayClass .int, .fieldLink RX1 11 "HeapMover$Draft" "numbers" "[[I"] ++ wsX10)
def wsJ7_fill_53178 : List Cond := .code yJ7_fill_53178 cJ7_fill_53178 4 none :: ([])
def wsX1_wipe : List Cond := .code yX1_wipe cX1_wipe 2 none :: ([.fieldLink RX1 11 "HeapMover$Draft" "numbers" "[[I", .methodLink RX1 16 yJ7_fill_53178, .static yJ7_fill_53178, .initialized RJ7, .code yJ7_fill_53178 cJ7_fill_53178 4 none] ++ wsX10)
def wsX1_wipePlace : List Cond := .code yX1_wipePlace cX1_wipePlace 3 none :: ([.fieldLink RX1 11 "HeapMover$Draft" "numbers" "[[I"] ++ wsX10)
def wsX1_others : List Cond := .code yX1_others cX1_others 4 (some .int) :: ([.fieldLink RX1 11 "HeapMover$Draft" "numbers" "[[I"] ++ wsX10)
def wsX1_firstWrongFrom : List Cond := .code yX1_firstWrongFrom cX1_firstWrongFrom 6 (some .int) :: ([.fieldLink RX1 11 "HeapMover$Draft" "numbers" "[[I"] ++ wsX10)
def wsX1_firstWrongTo : List Cond := .code yX1_firstWrongTo cX1_firstWrongTo 6 (some .int) :: ([.fieldLink RX1 11 "HeapMover$Draft" "numbers" "[[I"] ++ wsX10)
def wsX1_cost : List Cond := .code yX1_cost cX1_cost 5 (some .int) :: ([.fieldLink RX1 22 "HeapMover$Land" "places" "I", .fieldLink RX1 11 "HeapMover$Draft" "numbers" "[[I", .fieldLink RX1 28 "HeapMover$Land" "distances" "[[I"] ++ wsX30 ++ wsX10)
def wsX2_init : List Cond := .code yX2_init cX2_init 1 none :: ([.methodLink RX2 3 objectInit, .instanceMethod objectInit, .code objectInit ⟨#[0xb1]⟩ 1 none, .classLink RX2 9 "[[I", .arrayClass .int, .fieldLink RX2 11 "HeapMover$Heaps" "amounts" "[[I"] ++ wsX20)
def wsX2_has : List Cond := .code yX2_has cX2_has 2 (some .boolean) :: ([.fieldLink RX2 16 "HeapMover$Heaps" "made" "I"] ++ wsX20)
def wsX2_total : List Cond := .code yX2_total cX2_total 4 (some .int) :: ([.fieldLink RX2 11 "HeapMover$Heaps" "amounts" "[[I"] ++ wsX20)
def wsX3_init : List Cond := .code yX3_init cX3_init 2 none :: ([.methodLink RX3 3 objectInit, .instanceMethod objectInit, .code objectInit ⟨#[0xb1]⟩ 1 none, .arrayClass .int, .fieldLink RX3 9 "HeapMover$Land" "starts" "[I", .fieldLink RX3 15 "HeapMover$Land" "ends" "[I", .fieldLink RX3 18 "HeapMover$Land" "lengths" "[I", .fieldLink RX3 21 "HeapMover$Land" "bounds" "[I", .classLink RX3 24 "[[I", .fieldLink RX3 26 "HeapMover$Land" "directs" "[[I", .fieldLink RX3 29 "HeapMover$Land" "distances" "[[I"] ++ wsX30)
def wsX3_has : List Cond := .code yX3_has cX3_has 2 (some .boolean) :: ([.fieldLink RX3 32 "HeapMover$Land" "places" "I"] ++ wsX30)
def wsX3_measureRoads : List Cond := .code yX3_measureRoads cX3_measureRoads 5 none :: ([.fieldLink RX3 32 "HeapMover$Land" "places" "I", .fieldLink RX3 26 "HeapMover$Land" "directs" "[[I", .constant RX3 42 (1000000), .fieldLink RX3 39 "HeapMover$Land" "roads" "I", .fieldLink RX3 9 "HeapMover$Land" "starts" "[I", .fieldLink RX3 15 "HeapMover$Land" "ends" "[I", .fieldLink RX3 18 "HeapMover$Land" "lengths" "[I", .methodLink RX3 62 Lib.Math.min.name, .static Lib.Math.min.name, .initialized "java/lang/Math", .code Lib.Math.min.name Lib.Math.min.code 2 (some .int), .methodLink RX3 56 yJ7_fill_53178, .static yJ7_fill_53178, .initialized RJ7, .code yJ7_fill_53178 cJ7_fill_53178 4 none] ++ wsX30)
def wsX3_shortenBy : List Cond := .code yX3_shortenBy cX3_shortenBy 6 none :: ([.fieldLink RX3 29 "HeapMover$Land" "distances" "[[I", .constant RX3 42 (1000000), .fieldLink RX3 32 "HeapMover$Land" "places" "I"] ++ wsX30)
def wsX3_measure_r1 : List Cond := [Cond.fieldLink RX3 32 "HeapMover$Land" "places" "I", Cond.fieldLink RX3 26 "HeapMover$Land" "directs" "[[I", Cond.fieldLink RX3 29 "HeapMover$Land" "distances" "[[I", Cond.methodLink RX3 46 arraycopyName, Cond.native arraycopyName, Cond.static arraycopyName, Cond.initialized "java/lang/System", Cond.methodLink RX3 43 yX3_measureRoads, Cond.instanceMethod yX3_measureRoads, Cond.selects RX3 yX3_measureRoads yX3_measureRoads, Cond.initialized RX3, Cond.code yX3_measureRoads cX3_measureRoads 5 none, Cond.constant RX3 42 (1000000), Cond.fieldLink RX3 39 "HeapMover$Land" "roads" "I", Cond.fieldLink RX3 9 "HeapMover$Land" "starts" "[I", Cond.fieldLink RX3 15 "HeapMover$Land" "ends" "[I", Cond.fieldLink RX3 18 "HeapMover$Land" "lengths" "[I", Cond.methodLink RX3 62 Lib.Math.min.name, Cond.static Lib.Math.min.name, Cond.initialized "java/lang/Math", Cond.code Lib.Math.min.name Lib.Math.min.code 2 (some .int), Cond.methodLink RX3 56 yJ7_fill_53178, Cond.static yJ7_fill_53178, Cond.initialized RJ7]
def wsX3_measure_r2 : List Cond := [Cond.code yJ7_fill_53178 cJ7_fill_53178 4 none, Cond.methodLink RX3 52 yX3_shortenBy, Cond.instanceMethod yX3_shortenBy, Cond.selects RX3 yX3_shortenBy yX3_shortenBy, Cond.code yX3_shortenBy cX3_shortenBy 6 none]
def wsX3_measure : List Cond := .code yX3_measure cX3_measure 3 none :: ((wsX3_measure_r1 ++ wsX3_measure_r2) ++ wsX30)
def wsX3_addPlace_r1 : List Cond := [Cond.fieldLink RX3 32 "HeapMover$Land" "places" "I", Cond.methodLink RX3 36 yX3_measure, Cond.instanceMethod yX3_measure, Cond.selects RX3 yX3_measure yX3_measure, Cond.initialized RX3, Cond.code yX3_measure cX3_measure 3 none, Cond.fieldLink RX3 26 "HeapMover$Land" "directs" "[[I", Cond.fieldLink RX3 29 "HeapMover$Land" "distances" "[[I", Cond.methodLink RX3 46 arraycopyName, Cond.native arraycopyName, Cond.static arraycopyName, Cond.initialized "java/lang/System", Cond.methodLink RX3 43 yX3_measureRoads, Cond.instanceMethod yX3_measureRoads, Cond.selects RX3 yX3_measureRoads yX3_measureRoads, Cond.code yX3_measureRoads cX3_measureRoads 5 none, Cond.constant RX3 42 (1000000), Cond.fieldLink RX3 39 "HeapMover$Land" "roads" "I", Cond.fieldLink RX3 9 "HeapMover$Land" "starts" "[I", Cond.fieldLink RX3 15 "HeapMover$Land" "ends" "[I", Cond.fieldLink RX3 18 "HeapMover$Land" "lengths" "[I", Cond.methodLink RX3 62 Lib.Math.min.name, Cond.static Lib.Math.min.name, Cond.initialized "java/lang/Math"]
def wsX3_addPlace_r2 : List Cond := [Cond.code Lib.Math.min.name Lib.Math.min.code 2 (some .int), Cond.methodLink RX3 56 yJ7_fill_53178, Cond.static yJ7_fill_53178, Cond.initialized RJ7, Cond.code yJ7_fill_53178 cJ7_fill_53178 4 none, Cond.methodLink RX3 52 yX3_shortenBy, Cond.instanceMethod yX3_shortenBy, Cond.selects RX3 yX3_shortenBy yX3_shortenBy, Cond.code yX3_shortenBy cX3_shortenBy 6 none]
def wsX3_addPlace : List Cond := .code yX3_addPlace cX3_addPlace 2 (some .int) :: ((wsX3_addPlace_r1 ++ wsX3_addPlace_r2) ++ wsX30)
def wsX3_dropPlace : List Cond := .code yX3_dropPlace cX3_dropPlace 1 none :: ([.fieldLink RX3 32 "HeapMover$Land" "places" "I"] ++ wsX30)
def wsX3_addRoad_r1 : List Cond := [Cond.fieldLink RX3 39 "HeapMover$Land" "roads" "I", Cond.fieldLink RX3 9 "HeapMover$Land" "starts" "[I", Cond.fieldLink RX3 15 "HeapMover$Land" "ends" "[I", Cond.fieldLink RX3 18 "HeapMover$Land" "lengths" "[I", Cond.methodLink RX3 36 yX3_measure, Cond.instanceMethod yX3_measure, Cond.selects RX3 yX3_measure yX3_measure, Cond.initialized RX3, Cond.code yX3_measure cX3_measure 3 none, Cond.fieldLink RX3 32 "HeapMover$Land" "places" "I", Cond.fieldLink RX3 26 "HeapMover$Land" "directs" "[[I", Cond.fieldLink RX3 29 "HeapMover$Land" "distances" "[[I", Cond.methodLink RX3 46 arraycopyName, Cond.native arraycopyName, Cond.static arraycopyName, Cond.initialized "java/lang/System", Cond.methodLink RX3 43 yX3_measureRoads, Cond.instanceMethod yX3_measureRoads, Cond.selects RX3 yX3_measureRoads yX3_measureRoads, Cond.code yX3_measureRoads cX3_measureRoads 5 none, Cond.constant RX3 42 (1000000), Cond.methodLink RX3 62 Lib.Math.min.name, Cond.static Lib.Math.min.name, Cond.initialized "java/lang/Math"]
def wsX3_addRoad_r2 : List Cond := [Cond.code Lib.Math.min.name Lib.Math.min.code 2 (some .int), Cond.methodLink RX3 56 yJ7_fill_53178, Cond.static yJ7_fill_53178, Cond.initialized RJ7, Cond.code yJ7_fill_53178 cJ7_fill_53178 4 none, Cond.methodLink RX3 52 yX3_shortenBy, Cond.instanceMethod yX3_shortenBy, Cond.selects RX3 yX3_shortenBy yX3_shortenBy, Cond.code yX3_shortenBy cX3_shortenBy 6 none]
def wsX3_addRoad : List Cond := .code yX3_addRoad cX3_addRoad 5 (some .int) :: ((wsX3_addRoad_r1 ++ wsX3_addRoad_r2) ++ wsX30)
def wsX3_dropRoad_r1 : List Cond := [Cond.fieldLink RX3 39 "HeapMover$Land" "roads" "I", Cond.methodLink RX3 36 yX3_measure, Cond.instanceMethod yX3_measure, Cond.selects RX3 yX3_measure yX3_measure, Cond.initialized RX3, Cond.code yX3_measure cX3_measure 3 none, Cond.fieldLink RX3 32 "HeapMover$Land" "places" "I", Cond.fieldLink RX3 26 "HeapMover$Land" "directs" "[[I", Cond.fieldLink RX3 29 "HeapMover$Land" "distances" "[[I", Cond.methodLink RX3 46 arraycopyName, Cond.native arraycopyName, Cond.static arraycopyName, Cond.initialized "java/lang/System", Cond.methodLink RX3 43 yX3_measureRoads, Cond.instanceMethod yX3_measureRoads, Cond.selects RX3 yX3_measureRoads yX3_measureRoads, Cond.code yX3_measureRoads cX3_measureRoads 5 none, Cond.constant RX3 42 (1000000), Cond.fieldLink RX3 9 "HeapMover$Land" "starts" "[I", Cond.fieldLink RX3 15 "HeapMover$Land" "ends" "[I", Cond.fieldLink RX3 18 "HeapMover$Land" "lengths" "[I", Cond.methodLink RX3 62 Lib.Math.min.name, Cond.static Lib.Math.min.name, Cond.initialized "java/lang/Math"]
def wsX3_dropRoad_r2 : List Cond := [Cond.code Lib.Math.min.name Lib.Math.min.code 2 (some .int), Cond.methodLink RX3 56 yJ7_fill_53178, Cond.static yJ7_fill_53178, Cond.initialized RJ7, Cond.code yJ7_fill_53178 cJ7_fill_53178 4 none, Cond.methodLink RX3 52 yX3_shortenBy, Cond.instanceMethod yX3_shortenBy, Cond.selects RX3 yX3_shortenBy yX3_shortenBy, Cond.code yX3_shortenBy cX3_shortenBy 6 none]
def wsX3_dropRoad : List Cond := .code yX3_dropRoad cX3_dropRoad 1 none :: ((wsX3_dropRoad_r1 ++ wsX3_dropRoad_r2) ++ wsX30)
def wsX3_gates : List Cond := .code yX3_gates cX3_gates 3 (some .int) :: ([.fieldLink RX3 32 "HeapMover$Land" "places" "I", .fieldLink RX3 21 "HeapMover$Land" "bounds" "[I"] ++ wsX30)
def wsX3_isJoined : List Cond := .code yX3_isJoined cX3_isJoined 2 (some .boolean) :: ([.fieldLink RX3 32 "HeapMover$Land" "places" "I", .fieldLink RX3 29 "HeapMover$Land" "distances" "[[I", .constant RX3 42 (1000000)] ++ wsX30)
def wsX3_placeBehind : List Cond := .code yX3_placeBehind cX3_placeBehind 4 (some .int) :: ([.fieldLink RX3 29 "HeapMover$Land" "distances" "[[I", .constant RX3 42 (1000000), .fieldLink RX3 32 "HeapMover$Land" "places" "I", .fieldLink RX3 26 "HeapMover$Land" "directs" "[[I"] ++ wsX30)
def wsX5_init : List Cond := .code yX5_init cX5_init 1 none :: ([.methodLink RX5 3 objectInit, .instanceMethod objectInit, .code objectInit ⟨#[0xb1]⟩ 1 none, .arrayClass .int, .fieldLink RX5 9 "HeapMover$Network" "tails" "[I", .fieldLink RX5 15 "HeapMover$Network" "heads" "[I", .fieldLink RX5 18 "HeapMover$Network" "rooms" "[I", .fieldLink RX5 21 "HeapMover$Network" "prices" "[I", .fieldLink RX5 24 "HeapMover$Network" "costs" "[I", .fieldLink RX5 27 "HeapMover$Network" "lastArcs" "[I"] ++ wsX50)
def wsX4_init : List Cond := .code yX4_init cX4_init 1 none :: ([.methodLink RX4 3 objectInit, .instanceMethod objectInit, .code objectInit ⟨#[0xb1]⟩ 1 none, .classLink RX4 9 RX5, .instantiable RX5 9, .initialized RX5, .fieldLink RX4 12 "HeapMover$Mover" "network" "LHeapMover$Network;", .instanceMethod yX5_init, .code yX5_init cX5_init 1 none, .methodLink RX5 3 objectInit, .arrayClass .int, .fieldLink RX5 9 "HeapMover$Network" "tails" "[I", .fieldLink RX5 15 "HeapMover$Network" "heads" "[I", .fieldLink RX5 18 "HeapMover$Network" "rooms" "[I", .fieldLink RX5 21 "HeapMover$Network" "prices" "[I", .fieldLink RX5 24 "HeapMover$Network" "costs" "[I", .fieldLink RX5 27 "HeapMover$Network" "lastArcs" "[I"] ++ wsX50 ++ wsX40)
def wsX5_empty : List Cond := .code yX5_empty cX5_empty 1 none :: ([.fieldLink RX5 30 "HeapMover$Network" "arcs" "I", .fieldLink RX5 34 "HeapMover$Network" "moved" "I", .fieldLink RX5 37 "HeapMover$Network" "spent" "I"] ++ wsX50)
def wsX5_addArc : List Cond := .code yX5_addArc cX5_addArc 5 none :: ([.fieldLink RX5 9 "HeapMover$Network" "tails" "[I", .fieldLink RX5 30 "HeapMover$Network" "arcs" "I", .fieldLink RX5 15 "HeapMover$Network" "heads" "[I", .fieldLink RX5 18 "HeapMover$Network" "rooms" "[I", .fieldLink RX5 21 "HeapMover$Network" "prices" "[I"] ++ wsX50)
def wsX5_join : List Cond := .code yX5_join cX5_join 5 none :: ([.fieldLink RX5 30 "HeapMover$Network" "arcs" "I", .methodLink RX5 40 yX5_addArc, .instanceMethod yX5_addArc, .selects RX5 yX5_addArc yX5_addArc, .initialized RX5, .code yX5_addArc cX5_addArc 5 none, .fieldLink RX5 9 "HeapMover$Network" "tails" "[I", .fieldLink RX5 15 "HeapMover$Network" "heads" "[I", .fieldLink RX5 18 "HeapMover$Network" "rooms" "[I", .fieldLink RX5 21 "HeapMover$Network" "prices" "[I"] ++ wsX50)
def wsX4_joinSource : List Cond := .code yX4_joinSource cX4_joinSource 6 (some .int) :: ([.fieldLink RX4 12 "HeapMover$Mover" "network" "LHeapMover$Network;", .methodLink RX4 36 yX5_join, .instanceMethod yX5_join, .selects RX5 yX5_join yX5_join, .initialized RX5, .code yX5_join cX5_join 5 none, .fieldLink RX5 30 "HeapMover$Network" "arcs" "I", .methodLink RX5 40 yX5_addArc, .instanceMethod yX5_addArc, .selects RX5 yX5_addArc yX5_addArc, .code yX5_addArc cX5_addArc 5 none, .fieldLink RX5 9 "HeapMover$Network" "tails" "[I", .fieldLink RX5 15 "HeapMover$Network" "heads" "[I", .fieldLink RX5 18 "HeapMover$Network" "rooms" "[I", .fieldLink RX5 21 "HeapMover$Network" "prices" "[I"] ++ wsX40 ++ wsX50)
def wsX4_joinSink : List Cond := .code yX4_joinSink cX4_joinSink 5 none :: ([.fieldLink RX4 12 "HeapMover$Mover" "network" "LHeapMover$Network;", .methodLink RX4 36 yX5_join, .instanceMethod yX5_join, .selects RX5 yX5_join yX5_join, .initialized RX5, .code yX5_join cX5_join 5 none, .fieldLink RX5 30 "HeapMover$Network" "arcs" "I", .methodLink RX5 40 yX5_addArc, .instanceMethod yX5_addArc, .selects RX5 yX5_addArc yX5_addArc, .code yX5_addArc cX5_addArc 5 none, .fieldLink RX5 9 "HeapMover$Network" "tails" "[I", .fieldLink RX5 15 "HeapMover$Network" "heads" "[I", .fieldLink RX5 18 "HeapMover$Network" "rooms" "[I", .fieldLink RX5 21 "HeapMover$Network" "prices" "[I"] ++ wsX40 ++ wsX50)
def wsX4_staying : List Cond := .code yX4_staying cX4_staying 5 (some .int) :: ([.methodLink RX4 64 Lib.Math.min.name, .static Lib.Math.min.name, .initialized "java/lang/Math", .code Lib.Math.min.name Lib.Math.min.code 2 (some .int)])
def wsX5_relax : List Cond := .code yX5_relax cX5_relax 4 (some .boolean) :: ([.fieldLink RX5 30 "HeapMover$Network" "arcs" "I", .fieldLink RX5 24 "HeapMover$Network" "costs" "[I", .fieldLink RX5 9 "HeapMover$Network" "tails" "[I", .fieldLink RX5 18 "HeapMover$Network" "rooms" "[I", .constant RX5 52 (1000000), .fieldLink RX5 21 "HeapMover$Network" "prices" "[I", .fieldLink RX5 15 "HeapMover$Network" "heads" "[I", .fieldLink RX5 27 "HeapMover$Network" "lastArcs" "[I"] ++ wsX50)
def wsX5_isReached : List Cond := .code yX5_isReached cX5_isReached 2 (some .boolean) :: ([.fieldLink RX5 24 "HeapMover$Network" "costs" "[I", .constant RX5 52 (1000000)] ++ wsX50)
def wsX5_search : List Cond := .code yX5_search cX5_search 2 (some .boolean) :: ([.fieldLink RX5 24 "HeapMover$Network" "costs" "[I", .constant RX5 52 (1000000), .fieldLink RX5 27 "HeapMover$Network" "lastArcs" "[I", .methodLink RX5 53 yJ7_fill_53178, .static yJ7_fill_53178, .initialized RJ7, .code yJ7_fill_53178 cJ7_fill_53178 4 none, .methodLink RX5 59 yX5_relax, .instanceMethod yX5_relax, .selects RX5 yX5_relax yX5_relax, .initialized RX5, .code yX5_relax cX5_relax 4 (some .boolean), .fieldLink RX5 30 "HeapMover$Network" "arcs" "I", .fieldLink RX5 9 "HeapMover$Network" "tails" "[I", .fieldLink RX5 18 "HeapMover$Network" "rooms" "[I", .fieldLink RX5 21 "HeapMover$Network" "prices" "[I", .fieldLink RX5 15 "HeapMover$Network" "heads" "[I", .methodLink RX5 62 yX5_isReached, .instanceMethod yX5_isReached, .selects RX5 yX5_isReached yX5_isReached, .code yX5_isReached cX5_isReached 2 (some .boolean)] ++ wsX50)
def wsX5_carry : List Cond := .code yX5_carry cX5_carry 5 none :: ([.fieldLink RX5 27 "HeapMover$Network" "lastArcs" "[I", .fieldLink RX5 18 "HeapMover$Network" "rooms" "[I", .methodLink RX5 66 Lib.Math.min.name, .static Lib.Math.min.name, .initialized "java/lang/Math", .code Lib.Math.min.name Lib.Math.min.code 2 (some .int), .fieldLink RX5 9 "HeapMover$Network" "tails" "[I", .fieldLink RX5 34 "HeapMover$Network" "moved" "I", .fieldLink RX5 37 "HeapMover$Network" "spent" "I", .fieldLink RX5 24 "HeapMover$Network" "costs" "[I"] ++ wsX50)
def wsX5_push_r1 : List Cond := [Cond.fieldLink RX5 34 "HeapMover$Network" "moved" "I", Cond.methodLink RX5 44 yX5_search, Cond.instanceMethod yX5_search, Cond.selects RX5 yX5_search yX5_search, Cond.initialized RX5, Cond.code yX5_search cX5_search 2 (some .boolean), Cond.fieldLink RX5 24 "HeapMover$Network" "costs" "[I", Cond.constant RX5 52 (1000000), Cond.fieldLink RX5 27 "HeapMover$Network" "lastArcs" "[I", Cond.methodLink RX5 53 yJ7_fill_53178, Cond.static yJ7_fill_53178, Cond.initialized RJ7, Cond.code yJ7_fill_53178 cJ7_fill_53178 4 none, Cond.methodLink RX5 59 yX5_relax, Cond.instanceMethod yX5_relax, Cond.selects RX5 yX5_relax yX5_relax, Cond.code yX5_relax cX5_relax 4 (some .boolean), Cond.fieldLink RX5 30 "HeapMover$Network" "arcs" "I", Cond.fieldLink RX5 9 "HeapMover$Network" "tails" "[I", Cond.fieldLink RX5 18 "HeapMover$Network" "rooms" "[I", Cond.fieldLink RX5 21 "HeapMover$Network" "prices" "[I", Cond.fieldLink RX5 15 "HeapMover$Network" "heads" "[I", Cond.methodLink RX5 62 yX5_isReached, Cond.instanceMethod yX5_isReached]
def wsX5_push_r2 : List Cond := [Cond.selects RX5 yX5_isReached yX5_isReached, Cond.code yX5_isReached cX5_isReached 2 (some .boolean), Cond.methodLink RX5 48 yX5_carry, Cond.instanceMethod yX5_carry, Cond.selects RX5 yX5_carry yX5_carry, Cond.code yX5_carry cX5_carry 5 none, Cond.methodLink RX5 66 Lib.Math.min.name, Cond.static Lib.Math.min.name, Cond.initialized "java/lang/Math", Cond.code Lib.Math.min.name Lib.Math.min.code 2 (some .int), Cond.fieldLink RX5 37 "HeapMover$Network" "spent" "I"]
def wsX5_push : List Cond := .code yX5_push cX5_push 3 none :: ((wsX5_push_r1 ++ wsX5_push_r2) ++ wsX50)
def wsX4_cheapest_r1 : List Cond := [Cond.fieldLink RX4 12 "HeapMover$Mover" "network" "LHeapMover$Network;", Cond.fieldLink RX4 21 "HeapMover$Land" "places" "I", Cond.constant RX4 31 (1000000), Cond.fieldLink RX4 32 "HeapMover$Land" "distances" "[[I", Cond.fieldLink RX4 51 "HeapMover$Network" "spent" "I", Cond.methodLink RX4 18 yX5_empty, Cond.instanceMethod yX5_empty, Cond.selects RX5 yX5_empty yX5_empty, Cond.initialized RX5, Cond.code yX5_empty cX5_empty 1 none, Cond.fieldLink RX5 30 "HeapMover$Network" "arcs" "I", Cond.fieldLink RX5 34 "HeapMover$Network" "moved" "I", Cond.fieldLink RX5 37 "HeapMover$Network" "spent" "I", Cond.methodLink RX4 27 yX4_joinSource, Cond.instanceMethod yX4_joinSource, Cond.selects RX4 yX4_joinSource yX4_joinSource, Cond.initialized RX4, Cond.code yX4_joinSource cX4_joinSource 6 (some .int), Cond.methodLink RX4 36 yX5_join, Cond.instanceMethod yX5_join, Cond.selects RX5 yX5_join yX5_join, Cond.code yX5_join cX5_join 5 none, Cond.methodLink RX5 40 yX5_addArc, Cond.instanceMethod yX5_addArc]
def wsX4_cheapest_r2 : List Cond := [Cond.selects RX5 yX5_addArc yX5_addArc, Cond.code yX5_addArc cX5_addArc 5 none, Cond.fieldLink RX5 9 "HeapMover$Network" "tails" "[I", Cond.fieldLink RX5 15 "HeapMover$Network" "heads" "[I", Cond.fieldLink RX5 18 "HeapMover$Network" "rooms" "[I", Cond.fieldLink RX5 21 "HeapMover$Network" "prices" "[I", Cond.methodLink RX4 40 yX4_joinSink, Cond.instanceMethod yX4_joinSink, Cond.selects RX4 yX4_joinSink yX4_joinSink, Cond.code yX4_joinSink cX4_joinSink 5 none, Cond.methodLink RX4 44 yX4_staying, Cond.static yX4_staying, Cond.code yX4_staying cX4_staying 5 (some .int), Cond.methodLink RX4 64 Lib.Math.min.name, Cond.static Lib.Math.min.name, Cond.initialized "java/lang/Math", Cond.code Lib.Math.min.name Lib.Math.min.code 2 (some .int), Cond.methodLink RX4 47 yX5_push, Cond.instanceMethod yX5_push, Cond.selects RX5 yX5_push yX5_push, Cond.code yX5_push cX5_push 3 none, Cond.methodLink RX5 44 yX5_search, Cond.instanceMethod yX5_search, Cond.selects RX5 yX5_search yX5_search]
def wsX4_cheapest_r3 : List Cond := [Cond.code yX5_search cX5_search 2 (some .boolean), Cond.fieldLink RX5 24 "HeapMover$Network" "costs" "[I", Cond.constant RX5 52 (1000000), Cond.fieldLink RX5 27 "HeapMover$Network" "lastArcs" "[I", Cond.methodLink RX5 53 yJ7_fill_53178, Cond.static yJ7_fill_53178, Cond.initialized RJ7, Cond.code yJ7_fill_53178 cJ7_fill_53178 4 none, Cond.methodLink RX5 59 yX5_relax, Cond.instanceMethod yX5_relax, Cond.selects RX5 yX5_relax yX5_relax, Cond.code yX5_relax cX5_relax 4 (some .boolean), Cond.methodLink RX5 62 yX5_isReached, Cond.instanceMethod yX5_isReached, Cond.selects RX5 yX5_isReached yX5_isReached, Cond.code yX5_isReached cX5_isReached 2 (some .boolean), Cond.methodLink RX5 48 yX5_carry, Cond.instanceMethod yX5_carry, Cond.selects RX5 yX5_carry yX5_carry, Cond.code yX5_carry cX5_carry 5 none, Cond.methodLink RX5 66 Lib.Math.min.name]
def wsX4_cheapest : List Cond := .code yX4_cheapest cX4_cheapest 7 (some .int) :: ((wsX4_cheapest_r1 ++ (wsX4_cheapest_r2 ++ wsX4_cheapest_r3)) ++ wsX40 ++ wsX30 ++ wsX50)
def wsX4_cheapestThroughGates_r1 : List Cond := [Cond.fieldLink RX4 12 "HeapMover$Mover" "network" "LHeapMover$Network;", Cond.fieldLink RX4 21 "HeapMover$Land" "places" "I", Cond.fieldLink RX4 54 "HeapMover$Land" "bounds" "[I", Cond.constant RX4 31 (1000000), Cond.fieldLink RX4 58 "HeapMover$Land" "directs" "[[I", Cond.fieldLink RX4 61 "HeapMover$Network" "moved" "I", Cond.fieldLink RX4 51 "HeapMover$Network" "spent" "I", Cond.methodLink RX4 18 yX5_empty, Cond.instanceMethod yX5_empty, Cond.selects RX5 yX5_empty yX5_empty, Cond.initialized RX5, Cond.code yX5_empty cX5_empty 1 none, Cond.fieldLink RX5 30 "HeapMover$Network" "arcs" "I", Cond.fieldLink RX5 34 "HeapMover$Network" "moved" "I", Cond.fieldLink RX5 37 "HeapMover$Network" "spent" "I", Cond.methodLink RX4 27 yX4_joinSource, Cond.instanceMethod yX4_joinSource, Cond.selects RX4 yX4_joinSource yX4_joinSource, Cond.initialized RX4, Cond.code yX4_joinSource cX4_joinSource 6 (some .int), Cond.methodLink RX4 36 yX5_join, Cond.instanceMethod yX5_join, Cond.selects RX5 yX5_join yX5_join, Cond.code yX5_join cX5_join 5 none]
def wsX4_cheapestThroughGates_r2 : List Cond := [Cond.methodLink RX5 40 yX5_addArc, Cond.instanceMethod yX5_addArc, Cond.selects RX5 yX5_addArc yX5_addArc, Cond.code yX5_addArc cX5_addArc 5 none, Cond.fieldLink RX5 9 "HeapMover$Network" "tails" "[I", Cond.fieldLink RX5 15 "HeapMover$Network" "heads" "[I", Cond.fieldLink RX5 18 "HeapMover$Network" "rooms" "[I", Cond.fieldLink RX5 21 "HeapMover$Network" "prices" "[I", Cond.methodLink RX4 40 yX4_joinSink, Cond.instanceMethod yX4_joinSink, Cond.selects RX4 yX4_joinSink yX4_joinSink, Cond.code yX4_joinSink cX4_joinSink 5 none, Cond.methodLink RX4 47 yX5_push, Cond.instanceMethod yX5_push, Cond.selects RX5 yX5_push yX5_push, Cond.code yX5_push cX5_push 3 none, Cond.methodLink RX5 44 yX5_search, Cond.instanceMethod yX5_search, Cond.selects RX5 yX5_search yX5_search, Cond.code yX5_search cX5_search 2 (some .boolean), Cond.fieldLink RX5 24 "HeapMover$Network" "costs" "[I", Cond.constant RX5 52 (1000000), Cond.fieldLink RX5 27 "HeapMover$Network" "lastArcs" "[I", Cond.methodLink RX5 53 yJ7_fill_53178]
def wsX4_cheapestThroughGates_r3 : List Cond := [Cond.static yJ7_fill_53178, Cond.initialized RJ7, Cond.code yJ7_fill_53178 cJ7_fill_53178 4 none, Cond.methodLink RX5 59 yX5_relax, Cond.instanceMethod yX5_relax, Cond.selects RX5 yX5_relax yX5_relax, Cond.code yX5_relax cX5_relax 4 (some .boolean), Cond.methodLink RX5 62 yX5_isReached, Cond.instanceMethod yX5_isReached, Cond.selects RX5 yX5_isReached yX5_isReached, Cond.code yX5_isReached cX5_isReached 2 (some .boolean), Cond.methodLink RX5 48 yX5_carry, Cond.instanceMethod yX5_carry, Cond.selects RX5 yX5_carry yX5_carry, Cond.code yX5_carry cX5_carry 5 none, Cond.methodLink RX5 66 Lib.Math.min.name, Cond.static Lib.Math.min.name, Cond.initialized "java/lang/Math", Cond.code Lib.Math.min.name Lib.Math.min.code 2 (some .int)]
def wsX4_cheapestThroughGates : List Cond := .code yX4_cheapestThroughGates cX4_cheapestThroughGates 8 (some .int) :: ((wsX4_cheapestThroughGates_r1 ++ (wsX4_cheapestThroughGates_r2 ++ wsX4_cheapestThroughGates_r3)) ++ wsX40 ++ wsX30 ++ wsX50)
def wsX6_init : List Cond := .code yX6_init cX6_init 1 none :: ([.methodLink RX6 3 objectInit, .instanceMethod objectInit, .code objectInit ⟨#[0xb1]⟩ 1 none, .classLink RX6 9 "[[I", .arrayClass .int, .fieldLink RX6 11 "HeapMover$Planner" "goods" "[[I", .fieldLink RX6 16 "HeapMover$Planner" "heights" "[I", .fieldLink RX6 20 "HeapMover$Planner" "rowFrom" "[I", .fieldLink RX6 23 "HeapMover$Planner" "columnFrom" "[I", .fieldLink RX6 26 "HeapMover$Planner" "columns" "[I"] ++ wsX60)
def wsX6_takeGoods : List Cond := .code yX6_takeGoods cX6_takeGoods 8 none :: ([.fieldLink RX6 11 "HeapMover$Planner" "goods" "[[I", .methodLink RX6 65 Lib.Math.min.name, .static Lib.Math.min.name, .initialized "java/lang/Math", .code Lib.Math.min.name Lib.Math.min.code 2 (some .int), .fieldLink RX6 71 "HeapMover$Network" "arcs" "I", .fieldLink RX6 76 "HeapMover$Network" "tails" "[I", .fieldLink RX6 79 "HeapMover$Network" "heads" "[I", .fieldLink RX6 82 "HeapMover$Network" "rooms" "[I", .methodLink RX6 59 yJ7_fill_53178, .static yJ7_fill_53178, .initialized RJ7, .code yJ7_fill_53178 cJ7_fill_53178 4 none] ++ wsX60 ++ wsX50)
def wsX6_lowerHeights : List Cond := .code yX6_lowerHeights cX6_lowerHeights 6 (some .boolean) :: ([.fieldLink RX6 35 "HeapMover$Land" "places" "I", .fieldLink RX6 56 "HeapMover$Land" "distances" "[[I", .fieldLink RX6 16 "HeapMover$Planner" "heights" "[I", .fieldLink RX6 11 "HeapMover$Planner" "goods" "[[I"] ++ wsX30 ++ wsX60)
def wsX6_raiseHeights : List Cond := .code yX6_raiseHeights cX6_raiseHeights 3 none :: ([.fieldLink RX6 35 "HeapMover$Land" "places" "I", .fieldLink RX6 16 "HeapMover$Planner" "heights" "[I", .fieldLink RX6 56 "HeapMover$Land" "distances" "[[I", .methodLink RX6 85 yX6_lowerHeights, .instanceMethod yX6_lowerHeights, .selects RX6 yX6_lowerHeights yX6_lowerHeights, .initialized RX6, .code yX6_lowerHeights cX6_lowerHeights 6 (some .boolean), .fieldLink RX6 11 "HeapMover$Planner" "goods" "[[I"] ++ wsX30 ++ wsX60)
def wsX6_isTight : List Cond := .code yX6_isTight cX6_isTight 4 (some .boolean) :: ([.fieldLink RX6 16 "HeapMover$Planner" "heights" "[I", .fieldLink RX6 56 "HeapMover$Land" "distances" "[[I"] ++ wsX60 ++ wsX30)
def wsX6_cell : List Cond := .code yX6_cell cX6_cell 2 (some .int) :: ([])
def wsX6_reachColumns : List Cond := .code yX6_reachColumns cX6_reachColumns 7 (some .int) :: ([.fieldLink RX6 35 "HeapMover$Land" "places" "I", .fieldLink RX6 23 "HeapMover$Planner" "columnFrom" "[I", .fieldLink RX6 26 "HeapMover$Planner" "columns" "[I", .methodLink RX6 93 yX6_cell, .static yX6_cell, .initialized RX6, .code yX6_cell cX6_cell 2 (some .int), .methodLink RX6 89 yX6_isTight, .instanceMethod yX6_isTight, .selects RX6 yX6_isTight yX6_isTight, .code yX6_isTight cX6_isTight 4 (some .boolean), .fieldLink RX6 16 "HeapMover$Planner" "heights" "[I", .fieldLink RX6 56 "HeapMover$Land" "distances" "[[I"] ++ wsX30 ++ wsX60)
def wsX6_findRing : List Cond := .code yX6_findRing cX6_findRing 10 (some .boolean) :: ([.fieldLink RX6 20 "HeapMover$Planner" "rowFrom" "[I", .fieldLink RX6 23 "HeapMover$Planner" "columnFrom" "[I", .fieldLink RX6 26 "HeapMover$Planner" "columns" "[I", .fieldLink RX6 35 "HeapMover$Land" "places" "I", .fieldLink RX6 11 "HeapMover$Planner" "goods" "[[I", .methodLink RX6 59 yJ7_fill_53178, .static yJ7_fill_53178, .initialized RJ7, .code yJ7_fill_53178 cJ7_fill_53178 4 none, .methodLink RX6 93 yX6_cell, .static yX6_cell, .initialized RX6, .code yX6_cell cX6_cell 2 (some .int), .methodLink RX6 104 yX6_reachColumns, .instanceMethod yX6_reachColumns, .selects RX6 yX6_reachColumns yX6_reachColumns, .code yX6_reachColumns cX6_reachColumns 7 (some .int), .methodLink RX6 89 yX6_isTight, .instanceMethod yX6_isTight, .selects RX6 yX6_isTight yX6_isTight, .code yX6_isTight cX6_isTight 4 (some .boolean), .fieldLink RX6 16 "HeapMover$Planner" "heights" "[I", .fieldLink RX6 56 "HeapMover$Land" "distances" "[[I"] ++ wsX60 ++ wsX30)
def wsX6_ringAmount : List Cond := .code yX6_ringAmount cX6_ringAmount 7 (some .int) :: ([.fieldLink RX6 20 "HeapMover$Planner" "rowFrom" "[I", .fieldLink RX6 11 "HeapMover$Planner" "goods" "[[I", .methodLink RX6 65 Lib.Math.min.name, .static Lib.Math.min.name, .initialized "java/lang/Math", .code Lib.Math.min.name Lib.Math.min.code 2 (some .int), .fieldLink RX6 23 "HeapMover$Planner" "columnFrom" "[I"] ++ wsX60)
def wsX6_turnRing : List Cond := .code yX6_turnRing cX6_turnRing 7 none :: ([.fieldLink RX6 20 "HeapMover$Planner" "rowFrom" "[I", .fieldLink RX6 11 "HeapMover$Planner" "goods" "[[I", .fieldLink RX6 23 "HeapMover$Planner" "columnFrom" "[I", .methodLink RX6 108 yX6_ringAmount, .instanceMethod yX6_ringAmount, .selects RX6 yX6_ringAmount yX6_ringAmount, .initialized RX6, .code yX6_ringAmount cX6_ringAmount 7 (some .int), .methodLink RX6 65 Lib.Math.min.name, .static Lib.Math.min.name, .initialized "java/lang/Math", .code Lib.Math.min.name Lib.Math.min.code 2 (some .int)] ++ wsX60)
def wsX6_putFirst_r1 : List Cond := [Cond.fieldLink RX6 35 "HeapMover$Land" "places" "I", Cond.methodLink RX6 89 yX6_isTight, Cond.instanceMethod yX6_isTight, Cond.selects RX6 yX6_isTight yX6_isTight, Cond.initialized RX6, Cond.code yX6_isTight cX6_isTight 4 (some .boolean), Cond.fieldLink RX6 16 "HeapMover$Planner" "heights" "[I", Cond.fieldLink RX6 56 "HeapMover$Land" "distances" "[[I", Cond.methodLink RX6 93 yX6_cell, Cond.static yX6_cell, Cond.code yX6_cell cX6_cell 2 (some .int), Cond.methodLink RX6 96 yX6_findRing, Cond.instanceMethod yX6_findRing, Cond.selects RX6 yX6_findRing yX6_findRing, Cond.code yX6_findRing cX6_findRing 10 (some .boolean), Cond.fieldLink RX6 20 "HeapMover$Planner" "rowFrom" "[I", Cond.fieldLink RX6 23 "HeapMover$Planner" "columnFrom" "[I", Cond.fieldLink RX6 26 "HeapMover$Planner" "columns" "[I", Cond.fieldLink RX6 11 "HeapMover$Planner" "goods" "[[I", Cond.methodLink RX6 59 yJ7_fill_53178, Cond.static yJ7_fill_53178, Cond.initialized RJ7, Cond.code yJ7_fill_53178 cJ7_fill_53178 4 none, Cond.methodLink RX6 104 yX6_reachColumns]
def wsX6_putFirst_r2 : List Cond := [Cond.instanceMethod yX6_reachColumns, Cond.selects RX6 yX6_reachColumns yX6_reachColumns, Cond.code yX6_reachColumns cX6_reachColumns 7 (some .int), Cond.methodLink RX6 100 yX6_turnRing, Cond.instanceMethod yX6_turnRing, Cond.selects RX6 yX6_turnRing yX6_turnRing, Cond.code yX6_turnRing cX6_turnRing 7 none, Cond.methodLink RX6 108 yX6_ringAmount, Cond.instanceMethod yX6_ringAmount, Cond.selects RX6 yX6_ringAmount yX6_ringAmount, Cond.code yX6_ringAmount cX6_ringAmount 7 (some .int), Cond.methodLink RX6 65 Lib.Math.min.name, Cond.static Lib.Math.min.name, Cond.initialized "java/lang/Math", Cond.code Lib.Math.min.name Lib.Math.min.code 2 (some .int)]
def wsX6_putFirst : List Cond := .code yX6_putFirst cX6_putFirst 6 none :: ((wsX6_putFirst_r1 ++ wsX6_putFirst_r2) ++ wsX30 ++ wsX60)
def wsX6_make_r1 : List Cond := [Cond.fieldLink RX6 35 "HeapMover$Land" "places" "I", Cond.fieldLink RX6 41 "HeapMover$Mover" "network" "LHeapMover$Network;", Cond.methodLink RX6 29 yX4_cheapest, Cond.instanceMethod yX4_cheapest, Cond.selects RX4 yX4_cheapest yX4_cheapest, Cond.initialized RX4, Cond.code yX4_cheapest cX4_cheapest 7 (some .int), Cond.fieldLink RX4 12 "HeapMover$Mover" "network" "LHeapMover$Network;", Cond.fieldLink RX4 21 "HeapMover$Land" "places" "I", Cond.constant RX4 31 (1000000), Cond.fieldLink RX4 32 "HeapMover$Land" "distances" "[[I", Cond.fieldLink RX4 51 "HeapMover$Network" "spent" "I", Cond.methodLink RX4 18 yX5_empty, Cond.instanceMethod yX5_empty, Cond.selects RX5 yX5_empty yX5_empty, Cond.initialized RX5, Cond.code yX5_empty cX5_empty 1 none, Cond.fieldLink RX5 30 "HeapMover$Network" "arcs" "I", Cond.fieldLink RX5 34 "HeapMover$Network" "moved" "I", Cond.fieldLink RX5 37 "HeapMover$Network" "spent" "I", Cond.methodLink RX4 27 yX4_joinSource, Cond.instanceMethod yX4_joinSource, Cond.selects RX4 yX4_joinSource yX4_joinSource, Cond.code yX4_joinSource cX4_joinSource 6 (some .int)]
def wsX6_make_r2 : List Cond := [Cond.methodLink RX4 36 yX5_join, Cond.instanceMethod yX5_join, Cond.selects RX5 yX5_join yX5_join, Cond.code yX5_join cX5_join 5 none, Cond.methodLink RX5 40 yX5_addArc, Cond.instanceMethod yX5_addArc, Cond.selects RX5 yX5_addArc yX5_addArc, Cond.code yX5_addArc cX5_addArc 5 none, Cond.fieldLink RX5 9 "HeapMover$Network" "tails" "[I", Cond.fieldLink RX5 15 "HeapMover$Network" "heads" "[I", Cond.fieldLink RX5 18 "HeapMover$Network" "rooms" "[I", Cond.fieldLink RX5 21 "HeapMover$Network" "prices" "[I", Cond.methodLink RX4 40 yX4_joinSink, Cond.instanceMethod yX4_joinSink, Cond.selects RX4 yX4_joinSink yX4_joinSink, Cond.code yX4_joinSink cX4_joinSink 5 none, Cond.methodLink RX4 44 yX4_staying, Cond.static yX4_staying, Cond.code yX4_staying cX4_staying 5 (some .int), Cond.methodLink RX4 64 Lib.Math.min.name, Cond.static Lib.Math.min.name, Cond.initialized "java/lang/Math", Cond.code Lib.Math.min.name Lib.Math.min.code 2 (some .int), Cond.methodLink RX4 47 yX5_push]
def wsX6_make_r3 : List Cond := [Cond.instanceMethod yX5_push, Cond.selects RX5 yX5_push yX5_push, Cond.code yX5_push cX5_push 3 none, Cond.methodLink RX5 44 yX5_search, Cond.instanceMethod yX5_search, Cond.selects RX5 yX5_search yX5_search, Cond.code yX5_search cX5_search 2 (some .boolean), Cond.fieldLink RX5 24 "HeapMover$Network" "costs" "[I", Cond.constant RX5 52 (1000000), Cond.fieldLink RX5 27 "HeapMover$Network" "lastArcs" "[I", Cond.methodLink RX5 53 yJ7_fill_53178, Cond.static yJ7_fill_53178, Cond.initialized RJ7, Cond.code yJ7_fill_53178 cJ7_fill_53178 4 none, Cond.methodLink RX5 59 yX5_relax, Cond.instanceMethod yX5_relax, Cond.selects RX5 yX5_relax yX5_relax, Cond.code yX5_relax cX5_relax 4 (some .boolean), Cond.methodLink RX5 62 yX5_isReached, Cond.instanceMethod yX5_isReached, Cond.selects RX5 yX5_isReached yX5_isReached, Cond.code yX5_isReached cX5_isReached 2 (some .boolean), Cond.methodLink RX5 48 yX5_carry, Cond.instanceMethod yX5_carry]
def wsX6_make_r4 : List Cond := [Cond.selects RX5 yX5_carry yX5_carry, Cond.code yX5_carry cX5_carry 5 none, Cond.methodLink RX5 66 Lib.Math.min.name, Cond.methodLink RX6 45 yX6_takeGoods, Cond.instanceMethod yX6_takeGoods, Cond.selects RX6 yX6_takeGoods yX6_takeGoods, Cond.initialized RX6, Cond.code yX6_takeGoods cX6_takeGoods 8 none, Cond.fieldLink RX6 11 "HeapMover$Planner" "goods" "[[I", Cond.methodLink RX6 65 Lib.Math.min.name, Cond.fieldLink RX6 71 "HeapMover$Network" "arcs" "I", Cond.fieldLink RX6 76 "HeapMover$Network" "tails" "[I", Cond.fieldLink RX6 79 "HeapMover$Network" "heads" "[I", Cond.fieldLink RX6 82 "HeapMover$Network" "rooms" "[I", Cond.methodLink RX6 59 yJ7_fill_53178, Cond.methodLink RX6 49 yX6_raiseHeights, Cond.instanceMethod yX6_raiseHeights, Cond.selects RX6 yX6_raiseHeights yX6_raiseHeights, Cond.code yX6_raiseHeights cX6_raiseHeights 3 none, Cond.fieldLink RX6 16 "HeapMover$Planner" "heights" "[I", Cond.fieldLink RX6 56 "HeapMover$Land" "distances" "[[I", Cond.methodLink RX6 85 yX6_lowerHeights, Cond.instanceMethod yX6_lowerHeights, Cond.selects RX6 yX6_lowerHeights yX6_lowerHeights]
def wsX6_make_r5 : List Cond := [Cond.code yX6_lowerHeights cX6_lowerHeights 6 (some .boolean), Cond.methodLink RX6 53 yX6_putFirst, Cond.instanceMethod yX6_putFirst, Cond.selects RX6 yX6_putFirst yX6_putFirst, Cond.code yX6_putFirst cX6_putFirst 6 none, Cond.methodLink RX6 89 yX6_isTight, Cond.instanceMethod yX6_isTight, Cond.selects RX6 yX6_isTight yX6_isTight, Cond.code yX6_isTight cX6_isTight 4 (some .boolean), Cond.methodLink RX6 93 yX6_cell, Cond.static yX6_cell, Cond.code yX6_cell cX6_cell 2 (some .int), Cond.methodLink RX6 96 yX6_findRing, Cond.instanceMethod yX6_findRing, Cond.selects RX6 yX6_findRing yX6_findRing, Cond.code yX6_findRing cX6_findRing 10 (some .boolean), Cond.fieldLink RX6 20 "HeapMover$Planner" "rowFrom" "[I", Cond.fieldLink RX6 23 "HeapMover$Planner" "columnFrom" "[I", Cond.fieldLink RX6 26 "HeapMover$Planner" "columns" "[I", Cond.methodLink RX6 104 yX6_reachColumns, Cond.instanceMethod yX6_reachColumns, Cond.selects RX6 yX6_reachColumns yX6_reachColumns, Cond.code yX6_reachColumns cX6_reachColumns 7 (some .int), Cond.methodLink RX6 100 yX6_turnRing]
def wsX6_make_r6 : List Cond := [Cond.instanceMethod yX6_turnRing, Cond.selects RX6 yX6_turnRing yX6_turnRing, Cond.code yX6_turnRing cX6_turnRing 7 none, Cond.methodLink RX6 108 yX6_ringAmount, Cond.instanceMethod yX6_ringAmount, Cond.selects RX6 yX6_ringAmount yX6_ringAmount, Cond.code yX6_ringAmount cX6_ringAmount 7 (some .int)]
def wsX6_make : List Cond := .code yX6_make cX6_make 6 none :: ((wsX6_make_r1 ++ (wsX6_make_r2 ++ (wsX6_make_r3 ++ (wsX6_make_r4 ++ (wsX6_make_r5 ++ wsX6_make_r6))))) ++ wsX30 ++ wsX40 ++ wsX50 ++ wsX60)
def wsX6_hasOther_r1 : List Cond := [Cond.fieldLink RX6 35 "HeapMover$Land" "places" "I", Cond.methodLink RX6 89 yX6_isTight, Cond.instanceMethod yX6_isTight, Cond.selects RX6 yX6_isTight yX6_isTight, Cond.initialized RX6, Cond.code yX6_isTight cX6_isTight 4 (some .boolean), Cond.fieldLink RX6 16 "HeapMover$Planner" "heights" "[I", Cond.fieldLink RX6 56 "HeapMover$Land" "distances" "[[I", Cond.methodLink RX6 96 yX6_findRing, Cond.instanceMethod yX6_findRing, Cond.selects RX6 yX6_findRing yX6_findRing, Cond.code yX6_findRing cX6_findRing 10 (some .boolean), Cond.fieldLink RX6 20 "HeapMover$Planner" "rowFrom" "[I", Cond.fieldLink RX6 23 "HeapMover$Planner" "columnFrom" "[I", Cond.fieldLink RX6 26 "HeapMover$Planner" "columns" "[I", Cond.fieldLink RX6 11 "HeapMover$Planner" "goods" "[[I", Cond.methodLink RX6 59 yJ7_fill_53178, Cond.static yJ7_fill_53178, Cond.initialized RJ7, Cond.code yJ7_fill_53178 cJ7_fill_53178 4 none, Cond.methodLink RX6 93 yX6_cell, Cond.static yX6_cell, Cond.code yX6_cell cX6_cell 2 (some .int), Cond.methodLink RX6 104 yX6_reachColumns]
def wsX6_hasOther_r2 : List Cond := [Cond.instanceMethod yX6_reachColumns, Cond.selects RX6 yX6_reachColumns yX6_reachColumns, Cond.code yX6_reachColumns cX6_reachColumns 7 (some .int)]
def wsX6_hasOther : List Cond := .code yX6_hasOther cX6_hasOther 4 (some .boolean) :: ((wsX6_hasOther_r1 ++ wsX6_hasOther_r2) ++ wsX30 ++ wsX60)
def wsX6_passes : List Cond := .code yX6_passes cX6_passes 6 (some .boolean) :: ([.methodLink RX6 111 yX3_placeBehind, .instanceMethod yX3_placeBehind, .selects RX3 yX3_placeBehind yX3_placeBehind, .initialized RX3, .code yX3_placeBehind cX3_placeBehind 4 (some .int), .fieldLink RX3 29 "HeapMover$Land" "distances" "[[I", .constant RX3 42 (1000000), .fieldLink RX3 32 "HeapMover$Land" "places" "I", .fieldLink RX3 26 "HeapMover$Land" "directs" "[[I"] ++ wsX30)
def wsX6_carried : List Cond := .code yX6_carried cX6_carried 7 (some .int) :: ([.fieldLink RX6 35 "HeapMover$Land" "places" "I", .fieldLink RX6 11 "HeapMover$Planner" "goods" "[[I", .methodLink RX6 111 yX3_placeBehind, .instanceMethod yX3_placeBehind, .selects RX3 yX3_placeBehind yX3_placeBehind, .initialized RX3, .code yX3_placeBehind cX3_placeBehind 4 (some .int), .fieldLink RX3 29 "HeapMover$Land" "distances" "[[I", .constant RX3 42 (1000000), .fieldLink RX3 32 "HeapMover$Land" "places" "I", .fieldLink RX3 26 "HeapMover$Land" "directs" "[[I", .methodLink RX6 114 yX6_passes, .static yX6_passes, .initialized RX6, .code yX6_passes cX6_passes 6 (some .boolean)] ++ wsX30 ++ wsX60)
def wsX7_init : List Cond := .code yX7_init cX7_init 1 none :: ([.methodLink RX7 3 objectInit, .instanceMethod objectInit, .code objectInit ⟨#[0xb1]⟩ 1 none, .arrayClass .int, .fieldLink RX7 9 "HeapMover$Reach" "stuck" "[I", .classLink RX7 15 RX5, .instantiable RX5 9, .initialized RX5, .fieldLink RX7 18 "HeapMover$Reach" "network" "LHeapMover$Network;", .instanceMethod yX5_init, .code yX5_init cX5_init 1 none, .methodLink RX5 3 objectInit, .fieldLink RX5 9 "HeapMover$Network" "tails" "[I", .fieldLink RX5 15 "HeapMover$Network" "heads" "[I", .fieldLink RX5 18 "HeapMover$Network" "rooms" "[I", .fieldLink RX5 21 "HeapMover$Network" "prices" "[I", .fieldLink RX5 24 "HeapMover$Network" "costs" "[I", .fieldLink RX5 27 "HeapMover$Network" "lastArcs" "[I"] ++ wsX70 ++ wsX50)
def wsX7_joinEnds : List Cond := .code yX7_joinEnds cX7_joinEnds 5 none :: ([.fieldLink RX7 18 "HeapMover$Reach" "network" "LHeapMover$Network;", .methodLink RX7 59 yX5_empty, .instanceMethod yX5_empty, .selects RX5 yX5_empty yX5_empty, .initialized RX5, .code yX5_empty cX5_empty 1 none, .fieldLink RX5 30 "HeapMover$Network" "arcs" "I", .fieldLink RX5 34 "HeapMover$Network" "moved" "I", .fieldLink RX5 37 "HeapMover$Network" "spent" "I", .methodLink RX7 62 yX5_join, .instanceMethod yX5_join, .selects RX5 yX5_join yX5_join, .code yX5_join cX5_join 5 none, .methodLink RX5 40 yX5_addArc, .instanceMethod yX5_addArc, .selects RX5 yX5_addArc yX5_addArc, .code yX5_addArc cX5_addArc 5 none, .fieldLink RX5 9 "HeapMover$Network" "tails" "[I", .fieldLink RX5 15 "HeapMover$Network" "heads" "[I", .fieldLink RX5 18 "HeapMover$Network" "rooms" "[I", .fieldLink RX5 21 "HeapMover$Network" "prices" "[I"] ++ wsX70 ++ wsX50)
def wsX7_joinDistance : List Cond := .code yX7_joinDistance cX7_joinDistance 6 none :: ([.fieldLink RX7 22 "HeapMover$Land" "places" "I", .fieldLink RX7 66 "HeapMover$Land" "distances" "[[I", .fieldLink RX7 38 "HeapMover$Reach" "farthest" "I", .fieldLink RX7 18 "HeapMover$Reach" "network" "LHeapMover$Network;", .constant RX7 70 (1000000), .methodLink RX7 62 yX5_join, .instanceMethod yX5_join, .selects RX5 yX5_join yX5_join, .initialized RX5, .code yX5_join cX5_join 5 none, .fieldLink RX5 30 "HeapMover$Network" "arcs" "I", .methodLink RX5 40 yX5_addArc, .instanceMethod yX5_addArc, .selects RX5 yX5_addArc yX5_addArc, .code yX5_addArc cX5_addArc 5 none, .fieldLink RX5 9 "HeapMover$Network" "tails" "[I", .fieldLink RX5 15 "HeapMover$Network" "heads" "[I", .fieldLink RX5 18 "HeapMover$Network" "rooms" "[I", .fieldLink RX5 21 "HeapMover$Network" "prices" "[I"] ++ wsX30 ++ wsX70 ++ wsX50)
def wsX7_noteStuck : List Cond := .code yX7_noteStuck cX7_noteStuck 3 none :: ([.fieldLink RX7 9 "HeapMover$Reach" "stuck" "[I", .fieldLink RX7 18 "HeapMover$Reach" "network" "LHeapMover$Network;", .methodLink RX7 71 yX5_isReached, .instanceMethod yX5_isReached, .selects RX5 yX5_isReached yX5_isReached, .initialized RX5, .code yX5_isReached cX5_isReached 2 (some .boolean), .fieldLink RX5 24 "HeapMover$Network" "costs" "[I", .constant RX5 52 (1000000)] ++ wsX70 ++ wsX50)
def wsX7_distanceAbove : List Cond := .code yX7_distanceAbove cX7_distanceAbove 5 (some .int) :: ([.constant RX7 70 (1000000), .fieldLink RX7 22 "HeapMover$Land" "places" "I", .fieldLink RX7 66 "HeapMover$Land" "distances" "[[I", .methodLink RX7 75 Lib.Math.min.name, .static Lib.Math.min.name, .initialized "java/lang/Math", .code Lib.Math.min.name Lib.Math.min.code 2 (some .int)] ++ wsX30)
def wsX7_make_r1 : List Cond := [Cond.fieldLink RX7 22 "HeapMover$Land" "places" "I", Cond.fieldLink RX7 9 "HeapMover$Reach" "stuck" "[I", Cond.fieldLink RX7 38 "HeapMover$Reach" "farthest" "I", Cond.fieldLink RX7 18 "HeapMover$Reach" "network" "LHeapMover$Network;", Cond.fieldLink RX7 49 "HeapMover$Network" "moved" "I", Cond.methodLink RX7 28 yX7_joinEnds, Cond.instanceMethod yX7_joinEnds, Cond.selects RX7 yX7_joinEnds yX7_joinEnds, Cond.initialized RX7, Cond.code yX7_joinEnds cX7_joinEnds 5 none, Cond.methodLink RX7 59 yX5_empty, Cond.instanceMethod yX5_empty, Cond.selects RX5 yX5_empty yX5_empty, Cond.initialized RX5, Cond.code yX5_empty cX5_empty 1 none, Cond.fieldLink RX5 30 "HeapMover$Network" "arcs" "I", Cond.fieldLink RX5 34 "HeapMover$Network" "moved" "I", Cond.fieldLink RX5 37 "HeapMover$Network" "spent" "I", Cond.methodLink RX7 62 yX5_join, Cond.instanceMethod yX5_join, Cond.selects RX5 yX5_join yX5_join, Cond.code yX5_join cX5_join 5 none, Cond.methodLink RX5 40 yX5_addArc, Cond.instanceMethod yX5_addArc]
def wsX7_make_r2 : List Cond := [Cond.selects RX5 yX5_addArc yX5_addArc, Cond.code yX5_addArc cX5_addArc 5 none, Cond.fieldLink RX5 9 "HeapMover$Network" "tails" "[I", Cond.fieldLink RX5 15 "HeapMover$Network" "heads" "[I", Cond.fieldLink RX5 18 "HeapMover$Network" "rooms" "[I", Cond.fieldLink RX5 21 "HeapMover$Network" "prices" "[I", Cond.methodLink RX7 32 yJ7_fill_53178, Cond.static yJ7_fill_53178, Cond.initialized RJ7, Cond.code yJ7_fill_53178 cJ7_fill_53178 4 none, Cond.methodLink RX7 41 yX7_joinDistance, Cond.instanceMethod yX7_joinDistance, Cond.selects RX7 yX7_joinDistance yX7_joinDistance, Cond.code yX7_joinDistance cX7_joinDistance 6 none, Cond.fieldLink RX7 66 "HeapMover$Land" "distances" "[[I", Cond.constant RX7 70 (1000000), Cond.methodLink RX7 45 yX5_push, Cond.instanceMethod yX5_push, Cond.selects RX5 yX5_push yX5_push, Cond.code yX5_push cX5_push 3 none, Cond.methodLink RX5 44 yX5_search, Cond.instanceMethod yX5_search, Cond.selects RX5 yX5_search yX5_search, Cond.code yX5_search cX5_search 2 (some .boolean)]
def wsX7_make_r3 : List Cond := [Cond.fieldLink RX5 24 "HeapMover$Network" "costs" "[I", Cond.constant RX5 52 (1000000), Cond.fieldLink RX5 27 "HeapMover$Network" "lastArcs" "[I", Cond.methodLink RX5 53 yJ7_fill_53178, Cond.methodLink RX5 59 yX5_relax, Cond.instanceMethod yX5_relax, Cond.selects RX5 yX5_relax yX5_relax, Cond.code yX5_relax cX5_relax 4 (some .boolean), Cond.methodLink RX5 62 yX5_isReached, Cond.instanceMethod yX5_isReached, Cond.selects RX5 yX5_isReached yX5_isReached, Cond.code yX5_isReached cX5_isReached 2 (some .boolean), Cond.methodLink RX5 48 yX5_carry, Cond.instanceMethod yX5_carry, Cond.selects RX5 yX5_carry yX5_carry, Cond.code yX5_carry cX5_carry 5 none, Cond.methodLink RX5 66 Lib.Math.min.name, Cond.static Lib.Math.min.name, Cond.initialized "java/lang/Math", Cond.code Lib.Math.min.name Lib.Math.min.code 2 (some .int), Cond.methodLink RX7 52 yX7_noteStuck, Cond.instanceMethod yX7_noteStuck, Cond.selects RX7 yX7_noteStuck yX7_noteStuck, Cond.code yX7_noteStuck cX7_noteStuck 3 none]
def wsX7_make_r4 : List Cond := [Cond.methodLink RX7 71 yX5_isReached, Cond.methodLink RX7 55 yX7_distanceAbove, Cond.static yX7_distanceAbove, Cond.code yX7_distanceAbove cX7_distanceAbove 5 (some .int), Cond.methodLink RX7 75 Lib.Math.min.name]
def wsX7_make : List Cond := .code yX7_make cX7_make 6 none :: ((wsX7_make_r1 ++ (wsX7_make_r2 ++ (wsX7_make_r3 ++ wsX7_make_r4))) ++ wsX30 ++ wsX70 ++ wsX50)
def wsX8_init_r1 : List Cond := [Cond.methodLink RX8 3 objectInit, Cond.instanceMethod objectInit, Cond.code objectInit ⟨#[0xb1]⟩ 1 none, Cond.classLink RX8 9 RX3, Cond.instantiable RX3 8, Cond.initialized RX3, Cond.fieldLink RX8 12 "HeapMover" "land" "LHeapMover$Land;", Cond.classLink RX8 16 RX2, Cond.instantiable RX2 2, Cond.initialized RX2, Cond.fieldLink RX8 19 "HeapMover" "heaps" "LHeapMover$Heaps;", Cond.classLink RX8 23 RX0, Cond.instantiable RX0 6, Cond.initialized RX0, Cond.fieldLink RX8 26 "HeapMover" "changes" "LHeapMover$Changes;", Cond.classLink RX8 30 RX1, Cond.instantiable RX1 1, Cond.initialized RX1, Cond.fieldLink RX8 33 "HeapMover" "drafted" "LHeapMover$Draft;", Cond.classLink RX8 37 RX4, Cond.instantiable RX4 1, Cond.initialized RX4, Cond.fieldLink RX8 40 "HeapMover" "mover" "LHeapMover$Mover;", Cond.classLink RX8 44 RX6]
def wsX8_init_r2 : List Cond := [Cond.instantiable RX6 5, Cond.initialized RX6, Cond.fieldLink RX8 47 "HeapMover" "planner" "LHeapMover$Planner;", Cond.classLink RX8 51 RX7, Cond.instantiable RX7 3, Cond.initialized RX7, Cond.fieldLink RX8 54 "HeapMover" "reach" "LHeapMover$Reach;", Cond.fieldLink RX8 58 "HeapMover" "plannedFrom" "I", Cond.fieldLink RX8 62 "HeapMover" "plannedTo" "I", Cond.fieldLink RX8 65 "HeapMover" "reachedFrom" "I", Cond.fieldLink RX8 68 "HeapMover" "reachedTo" "I", Cond.fieldLink RX8 71 "HeapMover" "told" "I", Cond.methodLink RX8 11 yX3_init, Cond.instanceMethod yX3_init, Cond.code yX3_init cX3_init 2 none, Cond.methodLink RX3 3 objectInit, Cond.arrayClass .int, Cond.fieldLink RX3 9 "HeapMover$Land" "starts" "[I", Cond.fieldLink RX3 15 "HeapMover$Land" "ends" "[I", Cond.fieldLink RX3 18 "HeapMover$Land" "lengths" "[I", Cond.fieldLink RX3 21 "HeapMover$Land" "bounds" "[I", Cond.classLink RX3 24 "[[I", Cond.fieldLink RX3 26 "HeapMover$Land" "directs" "[[I", Cond.fieldLink RX3 29 "HeapMover$Land" "distances" "[[I"]
def wsX8_init_r3 : List Cond := [Cond.instanceMethod yX2_init, Cond.code yX2_init cX2_init 1 none, Cond.methodLink RX2 3 objectInit, Cond.classLink RX2 9 "[[I", Cond.fieldLink RX2 11 "HeapMover$Heaps" "amounts" "[[I", Cond.instanceMethod yX0_init, Cond.code yX0_init cX0_init 1 none, Cond.methodLink RX0 3 objectInit, Cond.fieldLink RX0 9 "HeapMover$Changes" "kinds" "[I", Cond.fieldLink RX0 15 "HeapMover$Changes" "firsts" "[I", Cond.fieldLink RX0 18 "HeapMover$Changes" "seconds" "[I", Cond.fieldLink RX0 21 "HeapMover$Changes" "befores" "[I", Cond.instanceMethod yX1_init, Cond.code yX1_init cX1_init 1 none, Cond.methodLink RX1 3 objectInit, Cond.classLink RX1 9 "[[I", Cond.fieldLink RX1 11 "HeapMover$Draft" "numbers" "[[I", Cond.instanceMethod yX4_init, Cond.code yX4_init cX4_init 1 none, Cond.methodLink RX4 3 objectInit, Cond.classLink RX4 9 RX5, Cond.instantiable RX5 9, Cond.initialized RX5, Cond.fieldLink RX4 12 "HeapMover$Mover" "network" "LHeapMover$Network;"]
def wsX8_init_r4 : List Cond := [Cond.instanceMethod yX5_init, Cond.code yX5_init cX5_init 1 none, Cond.methodLink RX5 3 objectInit, Cond.fieldLink RX5 9 "HeapMover$Network" "tails" "[I", Cond.fieldLink RX5 15 "HeapMover$Network" "heads" "[I", Cond.fieldLink RX5 18 "HeapMover$Network" "rooms" "[I", Cond.fieldLink RX5 21 "HeapMover$Network" "prices" "[I", Cond.fieldLink RX5 24 "HeapMover$Network" "costs" "[I", Cond.fieldLink RX5 27 "HeapMover$Network" "lastArcs" "[I", Cond.instanceMethod yX6_init, Cond.code yX6_init cX6_init 1 none, Cond.methodLink RX6 3 objectInit, Cond.classLink RX6 9 "[[I", Cond.fieldLink RX6 11 "HeapMover$Planner" "goods" "[[I", Cond.fieldLink RX6 16 "HeapMover$Planner" "heights" "[I", Cond.fieldLink RX6 20 "HeapMover$Planner" "rowFrom" "[I", Cond.fieldLink RX6 23 "HeapMover$Planner" "columnFrom" "[I", Cond.fieldLink RX6 26 "HeapMover$Planner" "columns" "[I", Cond.instanceMethod yX7_init, Cond.code yX7_init cX7_init 1 none, Cond.methodLink RX7 3 objectInit, Cond.fieldLink RX7 9 "HeapMover$Reach" "stuck" "[I", Cond.classLink RX7 15 RX5, Cond.fieldLink RX7 18 "HeapMover$Reach" "network" "LHeapMover$Network;"]
def wsX8_init : List Cond := .code yX8_init cX8_init 1 none :: ((wsX8_init_r1 ++ (wsX8_init_r2 ++ (wsX8_init_r3 ++ wsX8_init_r4))) ++ wsX30 ++ wsX80 ++ wsX20 ++ wsX00 ++ wsX10 ++ wsX40 ++ wsX60 ++ wsX70 ++ wsX50)
def wsX8_forgetResults : List Cond := .code yX8_forgetResults cX8_forgetResults 1 none :: ([.fieldLink RX8 58 "HeapMover" "plannedFrom" "I", .fieldLink RX8 65 "HeapMover" "reachedFrom" "I"] ++ wsX80)
def wsX8_noteChange : List Cond := .code yX8_noteChange cX8_noteChange 5 none :: ([.fieldLink RX8 26 "HeapMover" "changes" "LHeapMover$Changes;", .methodLink RX8 219 yX0_keep, .instanceMethod yX0_keep, .selects RX0 yX0_keep yX0_keep, .initialized RX0, .code yX0_keep cX0_keep 6 none, .fieldLink RX0 24 "HeapMover$Changes" "oldest" "I", .fieldLink RX0 28 "HeapMover$Changes" "kept" "I", .fieldLink RX0 9 "HeapMover$Changes" "kinds" "[I", .fieldLink RX0 15 "HeapMover$Changes" "firsts" "[I", .fieldLink RX0 18 "HeapMover$Changes" "seconds" "[I", .fieldLink RX0 21 "HeapMover$Changes" "befores" "[I", .methodLink RX8 119 yX8_forgetResults, .instanceMethod yX8_forgetResults, .selects RX8 yX8_forgetResults yX8_forgetResults, .initialized RX8, .code yX8_forgetResults cX8_forgetResults 1 none, .fieldLink RX8 58 "HeapMover" "plannedFrom" "I", .fieldLink RX8 65 "HeapMover" "reachedFrom" "I"] ++ wsX80 ++ wsX00)
def wsX8_place_r1 : List Cond := [Cond.fieldLink RX8 12 "HeapMover" "land" "LHeapMover$Land;", Cond.fieldLink RX8 74 "HeapMover$Land" "places" "I", Cond.methodLink RX8 77 yX3_addPlace, Cond.instanceMethod yX3_addPlace, Cond.selects RX3 yX3_addPlace yX3_addPlace, Cond.initialized RX3, Cond.code yX3_addPlace cX3_addPlace 2 (some .int), Cond.fieldLink RX3 32 "HeapMover$Land" "places" "I", Cond.methodLink RX3 36 yX3_measure, Cond.instanceMethod yX3_measure, Cond.selects RX3 yX3_measure yX3_measure, Cond.code yX3_measure cX3_measure 3 none, Cond.fieldLink RX3 26 "HeapMover$Land" "directs" "[[I", Cond.fieldLink RX3 29 "HeapMover$Land" "distances" "[[I", Cond.methodLink RX3 46 arraycopyName, Cond.native arraycopyName, Cond.static arraycopyName, Cond.initialized "java/lang/System", Cond.methodLink RX3 43 yX3_measureRoads, Cond.instanceMethod yX3_measureRoads, Cond.selects RX3 yX3_measureRoads yX3_measureRoads, Cond.code yX3_measureRoads cX3_measureRoads 5 none, Cond.constant RX3 42 (1000000), Cond.fieldLink RX3 39 "HeapMover$Land" "roads" "I"]
def wsX8_place_r2 : List Cond := [Cond.fieldLink RX3 9 "HeapMover$Land" "starts" "[I", Cond.fieldLink RX3 15 "HeapMover$Land" "ends" "[I", Cond.fieldLink RX3 18 "HeapMover$Land" "lengths" "[I", Cond.methodLink RX3 62 Lib.Math.min.name, Cond.static Lib.Math.min.name, Cond.initialized "java/lang/Math", Cond.code Lib.Math.min.name Lib.Math.min.code 2 (some .int), Cond.methodLink RX3 56 yJ7_fill_53178, Cond.static yJ7_fill_53178, Cond.initialized RJ7, Cond.code yJ7_fill_53178 cJ7_fill_53178 4 none, Cond.methodLink RX3 52 yX3_shortenBy, Cond.instanceMethod yX3_shortenBy, Cond.selects RX3 yX3_shortenBy yX3_shortenBy, Cond.code yX3_shortenBy cX3_shortenBy 6 none, Cond.methodLink RX8 81 yX8_noteChange, Cond.instanceMethod yX8_noteChange, Cond.selects RX8 yX8_noteChange yX8_noteChange, Cond.initialized RX8, Cond.code yX8_noteChange cX8_noteChange 5 none, Cond.fieldLink RX8 26 "HeapMover" "changes" "LHeapMover$Changes;", Cond.methodLink RX8 219 yX0_keep, Cond.instanceMethod yX0_keep, Cond.selects RX0 yX0_keep yX0_keep]
def wsX8_place_r3 : List Cond := [Cond.initialized RX0, Cond.code yX0_keep cX0_keep 6 none, Cond.fieldLink RX0 24 "HeapMover$Changes" "oldest" "I", Cond.fieldLink RX0 28 "HeapMover$Changes" "kept" "I", Cond.fieldLink RX0 9 "HeapMover$Changes" "kinds" "[I", Cond.fieldLink RX0 15 "HeapMover$Changes" "firsts" "[I", Cond.fieldLink RX0 18 "HeapMover$Changes" "seconds" "[I", Cond.fieldLink RX0 21 "HeapMover$Changes" "befores" "[I", Cond.methodLink RX8 119 yX8_forgetResults, Cond.instanceMethod yX8_forgetResults, Cond.selects RX8 yX8_forgetResults yX8_forgetResults, Cond.code yX8_forgetResults cX8_forgetResults 1 none, Cond.fieldLink RX8 58 "HeapMover" "plannedFrom" "I", Cond.fieldLink RX8 65 "HeapMover" "reachedFrom" "I"]
def wsX8_place : List Cond := .code yX8_place cX8_place 2 (some .int) :: ((wsX8_place_r1 ++ (wsX8_place_r2 ++ wsX8_place_r3)) ++ wsX80 ++ wsX30 ++ wsX00)
def wsX8_road_r1 : List Cond := [Cond.fieldLink RX8 12 "HeapMover" "land" "LHeapMover$Land;", Cond.fieldLink RX8 89 "HeapMover$Land" "roads" "I", Cond.methodLink RX8 85 yX3_has, Cond.instanceMethod yX3_has, Cond.selects RX3 yX3_has yX3_has, Cond.initialized RX3, Cond.code yX3_has cX3_has 2 (some .boolean), Cond.fieldLink RX3 32 "HeapMover$Land" "places" "I", Cond.methodLink RX8 92 yX3_addRoad, Cond.instanceMethod yX3_addRoad, Cond.selects RX3 yX3_addRoad yX3_addRoad, Cond.code yX3_addRoad cX3_addRoad 5 (some .int), Cond.fieldLink RX3 39 "HeapMover$Land" "roads" "I", Cond.fieldLink RX3 9 "HeapMover$Land" "starts" "[I", Cond.fieldLink RX3 15 "HeapMover$Land" "ends" "[I", Cond.fieldLink RX3 18 "HeapMover$Land" "lengths" "[I", Cond.methodLink RX3 36 yX3_measure, Cond.instanceMethod yX3_measure, Cond.selects RX3 yX3_measure yX3_measure, Cond.code yX3_measure cX3_measure 3 none, Cond.fieldLink RX3 26 "HeapMover$Land" "directs" "[[I", Cond.fieldLink RX3 29 "HeapMover$Land" "distances" "[[I", Cond.methodLink RX3 46 arraycopyName, Cond.native arraycopyName]
def wsX8_road_r2 : List Cond := [Cond.static arraycopyName, Cond.initialized "java/lang/System", Cond.methodLink RX3 43 yX3_measureRoads, Cond.instanceMethod yX3_measureRoads, Cond.selects RX3 yX3_measureRoads yX3_measureRoads, Cond.code yX3_measureRoads cX3_measureRoads 5 none, Cond.constant RX3 42 (1000000), Cond.methodLink RX3 62 Lib.Math.min.name, Cond.static Lib.Math.min.name, Cond.initialized "java/lang/Math", Cond.code Lib.Math.min.name Lib.Math.min.code 2 (some .int), Cond.methodLink RX3 56 yJ7_fill_53178, Cond.static yJ7_fill_53178, Cond.initialized RJ7, Cond.code yJ7_fill_53178 cJ7_fill_53178 4 none, Cond.methodLink RX3 52 yX3_shortenBy, Cond.instanceMethod yX3_shortenBy, Cond.selects RX3 yX3_shortenBy yX3_shortenBy, Cond.code yX3_shortenBy cX3_shortenBy 6 none, Cond.methodLink RX8 81 yX8_noteChange, Cond.instanceMethod yX8_noteChange, Cond.selects RX8 yX8_noteChange yX8_noteChange, Cond.initialized RX8, Cond.code yX8_noteChange cX8_noteChange 5 none]
def wsX8_road_r3 : List Cond := [Cond.fieldLink RX8 26 "HeapMover" "changes" "LHeapMover$Changes;", Cond.methodLink RX8 219 yX0_keep, Cond.instanceMethod yX0_keep, Cond.selects RX0 yX0_keep yX0_keep, Cond.initialized RX0, Cond.code yX0_keep cX0_keep 6 none, Cond.fieldLink RX0 24 "HeapMover$Changes" "oldest" "I", Cond.fieldLink RX0 28 "HeapMover$Changes" "kept" "I", Cond.fieldLink RX0 9 "HeapMover$Changes" "kinds" "[I", Cond.fieldLink RX0 15 "HeapMover$Changes" "firsts" "[I", Cond.fieldLink RX0 18 "HeapMover$Changes" "seconds" "[I", Cond.fieldLink RX0 21 "HeapMover$Changes" "befores" "[I", Cond.methodLink RX8 119 yX8_forgetResults, Cond.instanceMethod yX8_forgetResults, Cond.selects RX8 yX8_forgetResults yX8_forgetResults, Cond.code yX8_forgetResults cX8_forgetResults 1 none, Cond.fieldLink RX8 58 "HeapMover" "plannedFrom" "I", Cond.fieldLink RX8 65 "HeapMover" "reachedFrom" "I"]
def wsX8_road : List Cond := .code yX8_road cX8_road 5 (some .int) :: ((wsX8_road_r1 ++ (wsX8_road_r2 ++ wsX8_road_r3)) ++ wsX80 ++ wsX30 ++ wsX00)
def wsX8_heap_r1 : List Cond := [Cond.fieldLink RX8 19 "HeapMover" "heaps" "LHeapMover$Heaps;", Cond.fieldLink RX8 96 "HeapMover$Heaps" "made" "I", Cond.methodLink RX8 81 yX8_noteChange, Cond.instanceMethod yX8_noteChange, Cond.selects RX8 yX8_noteChange yX8_noteChange, Cond.initialized RX8, Cond.code yX8_noteChange cX8_noteChange 5 none, Cond.fieldLink RX8 26 "HeapMover" "changes" "LHeapMover$Changes;", Cond.methodLink RX8 219 yX0_keep, Cond.instanceMethod yX0_keep, Cond.selects RX0 yX0_keep yX0_keep, Cond.initialized RX0, Cond.code yX0_keep cX0_keep 6 none, Cond.fieldLink RX0 24 "HeapMover$Changes" "oldest" "I", Cond.fieldLink RX0 28 "HeapMover$Changes" "kept" "I", Cond.fieldLink RX0 9 "HeapMover$Changes" "kinds" "[I", Cond.fieldLink RX0 15 "HeapMover$Changes" "firsts" "[I", Cond.fieldLink RX0 18 "HeapMover$Changes" "seconds" "[I", Cond.fieldLink RX0 21 "HeapMover$Changes" "befores" "[I", Cond.methodLink RX8 119 yX8_forgetResults, Cond.instanceMethod yX8_forgetResults, Cond.selects RX8 yX8_forgetResults yX8_forgetResults, Cond.code yX8_forgetResults cX8_forgetResults 1 none, Cond.fieldLink RX8 58 "HeapMover" "plannedFrom" "I"]
def wsX8_heap_r2 : List Cond := [Cond.fieldLink RX8 65 "HeapMover" "reachedFrom" "I"]
def wsX8_heap : List Cond := .code yX8_heap cX8_heap 2 (some .int) :: ((wsX8_heap_r1 ++ wsX8_heap_r2) ++ wsX80 ++ wsX20 ++ wsX00)
def wsX8_set_r1 : List Cond := [Cond.fieldLink RX8 19 "HeapMover" "heaps" "LHeapMover$Heaps;", Cond.fieldLink RX8 12 "HeapMover" "land" "LHeapMover$Land;", Cond.fieldLink RX8 100 "HeapMover$Heaps" "amounts" "[[I", Cond.methodLink RX8 99 yX2_has, Cond.instanceMethod yX2_has, Cond.selects RX2 yX2_has yX2_has, Cond.initialized RX2, Cond.code yX2_has cX2_has 2 (some .boolean), Cond.fieldLink RX2 16 "HeapMover$Heaps" "made" "I", Cond.methodLink RX8 85 yX3_has, Cond.instanceMethod yX3_has, Cond.selects RX3 yX3_has yX3_has, Cond.initialized RX3, Cond.code yX3_has cX3_has 2 (some .boolean), Cond.fieldLink RX3 32 "HeapMover$Land" "places" "I", Cond.methodLink RX8 81 yX8_noteChange, Cond.instanceMethod yX8_noteChange, Cond.selects RX8 yX8_noteChange yX8_noteChange, Cond.initialized RX8, Cond.code yX8_noteChange cX8_noteChange 5 none, Cond.fieldLink RX8 26 "HeapMover" "changes" "LHeapMover$Changes;", Cond.methodLink RX8 219 yX0_keep, Cond.instanceMethod yX0_keep, Cond.selects RX0 yX0_keep yX0_keep]
def wsX8_set_r2 : List Cond := [Cond.initialized RX0, Cond.code yX0_keep cX0_keep 6 none, Cond.fieldLink RX0 24 "HeapMover$Changes" "oldest" "I", Cond.fieldLink RX0 28 "HeapMover$Changes" "kept" "I", Cond.fieldLink RX0 9 "HeapMover$Changes" "kinds" "[I", Cond.fieldLink RX0 15 "HeapMover$Changes" "firsts" "[I", Cond.fieldLink RX0 18 "HeapMover$Changes" "seconds" "[I", Cond.fieldLink RX0 21 "HeapMover$Changes" "befores" "[I", Cond.methodLink RX8 119 yX8_forgetResults, Cond.instanceMethod yX8_forgetResults, Cond.selects RX8 yX8_forgetResults yX8_forgetResults, Cond.code yX8_forgetResults cX8_forgetResults 1 none, Cond.fieldLink RX8 58 "HeapMover" "plannedFrom" "I", Cond.fieldLink RX8 65 "HeapMover" "reachedFrom" "I"]
def wsX8_set : List Cond := .code yX8_set cX8_set 5 (some .int) :: ((wsX8_set_r1 ++ wsX8_set_r2) ++ wsX80 ++ wsX20 ++ wsX30 ++ wsX00)
def wsX8_gate_r1 : List Cond := [Cond.fieldLink RX8 12 "HeapMover" "land" "LHeapMover$Land;", Cond.constant RX8 104 (100000), Cond.fieldLink RX8 105 "HeapMover$Land" "bounds" "[I", Cond.methodLink RX8 85 yX3_has, Cond.instanceMethod yX3_has, Cond.selects RX3 yX3_has yX3_has, Cond.initialized RX3, Cond.code yX3_has cX3_has 2 (some .boolean), Cond.fieldLink RX3 32 "HeapMover$Land" "places" "I", Cond.methodLink RX8 81 yX8_noteChange, Cond.instanceMethod yX8_noteChange, Cond.selects RX8 yX8_noteChange yX8_noteChange, Cond.initialized RX8, Cond.code yX8_noteChange cX8_noteChange 5 none, Cond.fieldLink RX8 26 "HeapMover" "changes" "LHeapMover$Changes;", Cond.methodLink RX8 219 yX0_keep, Cond.instanceMethod yX0_keep, Cond.selects RX0 yX0_keep yX0_keep, Cond.initialized RX0, Cond.code yX0_keep cX0_keep 6 none, Cond.fieldLink RX0 24 "HeapMover$Changes" "oldest" "I", Cond.fieldLink RX0 28 "HeapMover$Changes" "kept" "I", Cond.fieldLink RX0 9 "HeapMover$Changes" "kinds" "[I", Cond.fieldLink RX0 15 "HeapMover$Changes" "firsts" "[I"]
def wsX8_gate_r2 : List Cond := [Cond.fieldLink RX0 18 "HeapMover$Changes" "seconds" "[I", Cond.fieldLink RX0 21 "HeapMover$Changes" "befores" "[I", Cond.methodLink RX8 119 yX8_forgetResults, Cond.instanceMethod yX8_forgetResults, Cond.selects RX8 yX8_forgetResults yX8_forgetResults, Cond.code yX8_forgetResults cX8_forgetResults 1 none, Cond.fieldLink RX8 58 "HeapMover" "plannedFrom" "I", Cond.fieldLink RX8 65 "HeapMover" "reachedFrom" "I"]
def wsX8_gate : List Cond := .code yX8_gate cX8_gate 4 (some .int) :: ((wsX8_gate_r1 ++ wsX8_gate_r2) ++ wsX80 ++ wsX30 ++ wsX00)
def wsX8_takeBack_r1 : List Cond := [Cond.fieldLink RX8 26 "HeapMover" "changes" "LHeapMover$Changes;", Cond.fieldLink RX8 222 "HeapMover$Changes" "firsts" "[I", Cond.fieldLink RX8 225 "HeapMover$Changes" "seconds" "[I", Cond.fieldLink RX8 228 "HeapMover$Changes" "kinds" "[I", Cond.fieldLink RX8 12 "HeapMover" "land" "LHeapMover$Land;", Cond.fieldLink RX8 33 "HeapMover" "drafted" "LHeapMover$Draft;", Cond.fieldLink RX8 19 "HeapMover" "heaps" "LHeapMover$Heaps;", Cond.fieldLink RX8 96 "HeapMover$Heaps" "made" "I", Cond.fieldLink RX8 100 "HeapMover$Heaps" "amounts" "[[I", Cond.fieldLink RX8 240 "HeapMover$Changes" "befores" "[I", Cond.fieldLink RX8 105 "HeapMover$Land" "bounds" "[I", Cond.methodLink RX8 231 yX3_dropPlace, Cond.instanceMethod yX3_dropPlace, Cond.selects RX3 yX3_dropPlace yX3_dropPlace, Cond.initialized RX3, Cond.code yX3_dropPlace cX3_dropPlace 1 none, Cond.fieldLink RX3 32 "HeapMover$Land" "places" "I", Cond.methodLink RX8 234 yX1_wipePlace, Cond.instanceMethod yX1_wipePlace, Cond.selects RX1 yX1_wipePlace yX1_wipePlace, Cond.initialized RX1, Cond.code yX1_wipePlace cX1_wipePlace 3 none, Cond.fieldLink RX1 11 "HeapMover$Draft" "numbers" "[[I", Cond.methodLink RX8 237 yX3_dropRoad]
def wsX8_takeBack_r2 : List Cond := [Cond.instanceMethod yX3_dropRoad, Cond.selects RX3 yX3_dropRoad yX3_dropRoad, Cond.code yX3_dropRoad cX3_dropRoad 1 none, Cond.fieldLink RX3 39 "HeapMover$Land" "roads" "I", Cond.methodLink RX3 36 yX3_measure, Cond.instanceMethod yX3_measure, Cond.selects RX3 yX3_measure yX3_measure, Cond.code yX3_measure cX3_measure 3 none, Cond.fieldLink RX3 26 "HeapMover$Land" "directs" "[[I", Cond.fieldLink RX3 29 "HeapMover$Land" "distances" "[[I", Cond.methodLink RX3 46 arraycopyName, Cond.native arraycopyName, Cond.static arraycopyName, Cond.initialized "java/lang/System", Cond.methodLink RX3 43 yX3_measureRoads, Cond.instanceMethod yX3_measureRoads, Cond.selects RX3 yX3_measureRoads yX3_measureRoads, Cond.code yX3_measureRoads cX3_measureRoads 5 none, Cond.constant RX3 42 (1000000), Cond.fieldLink RX3 9 "HeapMover$Land" "starts" "[I", Cond.fieldLink RX3 15 "HeapMover$Land" "ends" "[I", Cond.fieldLink RX3 18 "HeapMover$Land" "lengths" "[I", Cond.methodLink RX3 62 Lib.Math.min.name, Cond.static Lib.Math.min.name]
def wsX8_takeBack_r3 : List Cond := [Cond.initialized "java/lang/Math", Cond.code Lib.Math.min.name Lib.Math.min.code 2 (some .int), Cond.methodLink RX3 56 yJ7_fill_53178, Cond.static yJ7_fill_53178, Cond.initialized RJ7, Cond.code yJ7_fill_53178 cJ7_fill_53178 4 none, Cond.methodLink RX3 52 yX3_shortenBy, Cond.instanceMethod yX3_shortenBy, Cond.selects RX3 yX3_shortenBy yX3_shortenBy, Cond.code yX3_shortenBy cX3_shortenBy 6 none]
def wsX8_takeBack : List Cond := .code yX8_takeBack cX8_takeBack 4 none :: ((wsX8_takeBack_r1 ++ (wsX8_takeBack_r2 ++ wsX8_takeBack_r3)) ++ wsX80 ++ wsX00 ++ wsX20 ++ wsX30 ++ wsX10)
def wsX8_undo_r1 : List Cond := [Cond.fieldLink RX8 26 "HeapMover" "changes" "LHeapMover$Changes;", Cond.fieldLink RX8 109 "HeapMover$Changes" "kept" "I", Cond.methodLink RX8 112 yX0_dropLatest, Cond.instanceMethod yX0_dropLatest, Cond.selects RX0 yX0_dropLatest yX0_dropLatest, Cond.initialized RX0, Cond.code yX0_dropLatest cX0_dropLatest 1 (some .int), Cond.fieldLink RX0 28 "HeapMover$Changes" "kept" "I", Cond.fieldLink RX0 24 "HeapMover$Changes" "oldest" "I", Cond.methodLink RX8 115 yX8_takeBack, Cond.instanceMethod yX8_takeBack, Cond.selects RX8 yX8_takeBack yX8_takeBack, Cond.initialized RX8, Cond.code yX8_takeBack cX8_takeBack 4 none, Cond.fieldLink RX8 222 "HeapMover$Changes" "firsts" "[I", Cond.fieldLink RX8 225 "HeapMover$Changes" "seconds" "[I", Cond.fieldLink RX8 228 "HeapMover$Changes" "kinds" "[I", Cond.fieldLink RX8 12 "HeapMover" "land" "LHeapMover$Land;", Cond.fieldLink RX8 33 "HeapMover" "drafted" "LHeapMover$Draft;", Cond.fieldLink RX8 19 "HeapMover" "heaps" "LHeapMover$Heaps;", Cond.fieldLink RX8 96 "HeapMover$Heaps" "made" "I", Cond.fieldLink RX8 100 "HeapMover$Heaps" "amounts" "[[I", Cond.fieldLink RX8 240 "HeapMover$Changes" "befores" "[I", Cond.fieldLink RX8 105 "HeapMover$Land" "bounds" "[I"]
def wsX8_undo_r2 : List Cond := [Cond.methodLink RX8 231 yX3_dropPlace, Cond.instanceMethod yX3_dropPlace, Cond.selects RX3 yX3_dropPlace yX3_dropPlace, Cond.initialized RX3, Cond.code yX3_dropPlace cX3_dropPlace 1 none, Cond.fieldLink RX3 32 "HeapMover$Land" "places" "I", Cond.methodLink RX8 234 yX1_wipePlace, Cond.instanceMethod yX1_wipePlace, Cond.selects RX1 yX1_wipePlace yX1_wipePlace, Cond.initialized RX1, Cond.code yX1_wipePlace cX1_wipePlace 3 none, Cond.fieldLink RX1 11 "HeapMover$Draft" "numbers" "[[I", Cond.methodLink RX8 237 yX3_dropRoad, Cond.instanceMethod yX3_dropRoad, Cond.selects RX3 yX3_dropRoad yX3_dropRoad, Cond.code yX3_dropRoad cX3_dropRoad 1 none, Cond.fieldLink RX3 39 "HeapMover$Land" "roads" "I", Cond.methodLink RX3 36 yX3_measure, Cond.instanceMethod yX3_measure, Cond.selects RX3 yX3_measure yX3_measure, Cond.code yX3_measure cX3_measure 3 none, Cond.fieldLink RX3 26 "HeapMover$Land" "directs" "[[I", Cond.fieldLink RX3 29 "HeapMover$Land" "distances" "[[I", Cond.methodLink RX3 46 arraycopyName]
def wsX8_undo_r3 : List Cond := [Cond.native arraycopyName, Cond.static arraycopyName, Cond.initialized "java/lang/System", Cond.methodLink RX3 43 yX3_measureRoads, Cond.instanceMethod yX3_measureRoads, Cond.selects RX3 yX3_measureRoads yX3_measureRoads, Cond.code yX3_measureRoads cX3_measureRoads 5 none, Cond.constant RX3 42 (1000000), Cond.fieldLink RX3 9 "HeapMover$Land" "starts" "[I", Cond.fieldLink RX3 15 "HeapMover$Land" "ends" "[I", Cond.fieldLink RX3 18 "HeapMover$Land" "lengths" "[I", Cond.methodLink RX3 62 Lib.Math.min.name, Cond.static Lib.Math.min.name, Cond.initialized "java/lang/Math", Cond.code Lib.Math.min.name Lib.Math.min.code 2 (some .int), Cond.methodLink RX3 56 yJ7_fill_53178, Cond.static yJ7_fill_53178, Cond.initialized RJ7, Cond.code yJ7_fill_53178 cJ7_fill_53178 4 none, Cond.methodLink RX3 52 yX3_shortenBy, Cond.instanceMethod yX3_shortenBy, Cond.selects RX3 yX3_shortenBy yX3_shortenBy, Cond.code yX3_shortenBy cX3_shortenBy 6 none, Cond.methodLink RX8 119 yX8_forgetResults]
def wsX8_undo_r4 : List Cond := [Cond.instanceMethod yX8_forgetResults, Cond.selects RX8 yX8_forgetResults yX8_forgetResults, Cond.code yX8_forgetResults cX8_forgetResults 1 none, Cond.fieldLink RX8 58 "HeapMover" "plannedFrom" "I", Cond.fieldLink RX8 65 "HeapMover" "reachedFrom" "I"]
def wsX8_undo : List Cond := .code yX8_undo cX8_undo 1 (some .int) :: ((wsX8_undo_r1 ++ (wsX8_undo_r2 ++ (wsX8_undo_r3 ++ wsX8_undo_r4))) ++ wsX80 ++ wsX00 ++ wsX20 ++ wsX30 ++ wsX10)
def wsX8_apart : List Cond := .code yX8_apart cX8_apart 4 (some .int) :: ([.fieldLink RX8 12 "HeapMover" "land" "LHeapMover$Land;", .fieldLink RX8 122 "HeapMover$Land" "distances" "[[I", .constant RX8 125 (1000000), .methodLink RX8 85 yX3_has, .instanceMethod yX3_has, .selects RX3 yX3_has yX3_has, .initialized RX3, .code yX3_has cX3_has 2 (some .boolean), .fieldLink RX3 32 "HeapMover$Land" "places" "I"] ++ wsX80 ++ wsX30)
def wsX8_next : List Cond := .code yX8_next cX8_next 3 (some .int) :: ([.fieldLink RX8 12 "HeapMover" "land" "LHeapMover$Land;", .methodLink RX8 85 yX3_has, .instanceMethod yX3_has, .selects RX3 yX3_has yX3_has, .initialized RX3, .code yX3_has cX3_has 2 (some .boolean), .fieldLink RX3 32 "HeapMover$Land" "places" "I", .methodLink RX8 126 yX3_placeBehind, .instanceMethod yX3_placeBehind, .selects RX3 yX3_placeBehind yX3_placeBehind, .code yX3_placeBehind cX3_placeBehind 4 (some .int), .fieldLink RX3 29 "HeapMover$Land" "distances" "[[I", .constant RX3 42 (1000000), .fieldLink RX3 26 "HeapMover$Land" "directs" "[[I"] ++ wsX80 ++ wsX30)
def wsX8_amount : List Cond := .code yX8_amount cX8_amount 3 (some .int) :: ([.fieldLink RX8 19 "HeapMover" "heaps" "LHeapMover$Heaps;", .fieldLink RX8 12 "HeapMover" "land" "LHeapMover$Land;", .fieldLink RX8 100 "HeapMover$Heaps" "amounts" "[[I", .methodLink RX8 99 yX2_has, .instanceMethod yX2_has, .selects RX2 yX2_has yX2_has, .initialized RX2, .code yX2_has cX2_has 2 (some .boolean), .fieldLink RX2 16 "HeapMover$Heaps" "made" "I", .methodLink RX8 85 yX3_has, .instanceMethod yX3_has, .selects RX3 yX3_has yX3_has, .initialized RX3, .code yX3_has cX3_has 2 (some .boolean), .fieldLink RX3 32 "HeapMover$Land" "places" "I"] ++ wsX80 ++ wsX20 ++ wsX30)
def wsX8_sum : List Cond := .code yX8_sum cX8_sum 2 (some .int) :: ([.fieldLink RX8 19 "HeapMover" "heaps" "LHeapMover$Heaps;", .methodLink RX8 99 yX2_has, .instanceMethod yX2_has, .selects RX2 yX2_has yX2_has, .initialized RX2, .code yX2_has cX2_has 2 (some .boolean), .fieldLink RX2 16 "HeapMover$Heaps" "made" "I", .methodLink RX8 130 yX2_total, .instanceMethod yX2_total, .selects RX2 yX2_total yX2_total, .code yX2_total cX2_total 4 (some .int), .fieldLink RX2 11 "HeapMover$Heaps" "amounts" "[[I"] ++ wsX80 ++ wsX20)
def wsX8_refusalOfMoving : List Cond := .code yX8_refusalOfMoving cX8_refusalOfMoving 3 (some .int) :: ([.fieldLink RX8 19 "HeapMover" "heaps" "LHeapMover$Heaps;", .fieldLink RX8 12 "HeapMover" "land" "LHeapMover$Land;", .methodLink RX8 99 yX2_has, .instanceMethod yX2_has, .selects RX2 yX2_has yX2_has, .initialized RX2, .code yX2_has cX2_has 2 (some .boolean), .fieldLink RX2 16 "HeapMover$Heaps" "made" "I", .methodLink RX8 177 yX3_isJoined, .instanceMethod yX3_isJoined, .selects RX3 yX3_isJoined yX3_isJoined, .initialized RX3, .code yX3_isJoined cX3_isJoined 2 (some .boolean), .fieldLink RX3 32 "HeapMover$Land" "places" "I", .fieldLink RX3 29 "HeapMover$Land" "distances" "[[I", .constant RX3 42 (1000000), .methodLink RX8 130 yX2_total, .instanceMethod yX2_total, .selects RX2 yX2_total yX2_total, .code yX2_total cX2_total 4 (some .int), .fieldLink RX2 11 "HeapMover$Heaps" "amounts" "[[I"] ++ wsX80 ++ wsX20 ++ wsX30)
def wsX8_leastCost_r1 : List Cond := [Cond.fieldLink RX8 40 "HeapMover" "mover" "LHeapMover$Mover;", Cond.fieldLink RX8 12 "HeapMover" "land" "LHeapMover$Land;", Cond.fieldLink RX8 19 "HeapMover" "heaps" "LHeapMover$Heaps;", Cond.fieldLink RX8 100 "HeapMover$Heaps" "amounts" "[[I", Cond.methodLink RX8 130 yX2_total, Cond.instanceMethod yX2_total, Cond.selects RX2 yX2_total yX2_total, Cond.initialized RX2, Cond.code yX2_total cX2_total 4 (some .int), Cond.fieldLink RX2 11 "HeapMover$Heaps" "amounts" "[[I", Cond.methodLink RX8 181 yX4_cheapest, Cond.instanceMethod yX4_cheapest, Cond.selects RX4 yX4_cheapest yX4_cheapest, Cond.initialized RX4, Cond.code yX4_cheapest cX4_cheapest 7 (some .int), Cond.fieldLink RX4 12 "HeapMover$Mover" "network" "LHeapMover$Network;", Cond.fieldLink RX4 21 "HeapMover$Land" "places" "I", Cond.constant RX4 31 (1000000), Cond.fieldLink RX4 32 "HeapMover$Land" "distances" "[[I", Cond.fieldLink RX4 51 "HeapMover$Network" "spent" "I", Cond.methodLink RX4 18 yX5_empty, Cond.instanceMethod yX5_empty, Cond.selects RX5 yX5_empty yX5_empty, Cond.initialized RX5]
def wsX8_leastCost_r2 : List Cond := [Cond.code yX5_empty cX5_empty 1 none, Cond.fieldLink RX5 30 "HeapMover$Network" "arcs" "I", Cond.fieldLink RX5 34 "HeapMover$Network" "moved" "I", Cond.fieldLink RX5 37 "HeapMover$Network" "spent" "I", Cond.methodLink RX4 27 yX4_joinSource, Cond.instanceMethod yX4_joinSource, Cond.selects RX4 yX4_joinSource yX4_joinSource, Cond.code yX4_joinSource cX4_joinSource 6 (some .int), Cond.methodLink RX4 36 yX5_join, Cond.instanceMethod yX5_join, Cond.selects RX5 yX5_join yX5_join, Cond.code yX5_join cX5_join 5 none, Cond.methodLink RX5 40 yX5_addArc, Cond.instanceMethod yX5_addArc, Cond.selects RX5 yX5_addArc yX5_addArc, Cond.code yX5_addArc cX5_addArc 5 none, Cond.fieldLink RX5 9 "HeapMover$Network" "tails" "[I", Cond.fieldLink RX5 15 "HeapMover$Network" "heads" "[I", Cond.fieldLink RX5 18 "HeapMover$Network" "rooms" "[I", Cond.fieldLink RX5 21 "HeapMover$Network" "prices" "[I", Cond.methodLink RX4 40 yX4_joinSink, Cond.instanceMethod yX4_joinSink, Cond.selects RX4 yX4_joinSink yX4_joinSink, Cond.code yX4_joinSink cX4_joinSink 5 none]
def wsX8_leastCost_r3 : List Cond := [Cond.methodLink RX4 44 yX4_staying, Cond.static yX4_staying, Cond.code yX4_staying cX4_staying 5 (some .int), Cond.methodLink RX4 64 Lib.Math.min.name, Cond.static Lib.Math.min.name, Cond.initialized "java/lang/Math", Cond.code Lib.Math.min.name Lib.Math.min.code 2 (some .int), Cond.methodLink RX4 47 yX5_push, Cond.instanceMethod yX5_push, Cond.selects RX5 yX5_push yX5_push, Cond.code yX5_push cX5_push 3 none, Cond.methodLink RX5 44 yX5_search, Cond.instanceMethod yX5_search, Cond.selects RX5 yX5_search yX5_search, Cond.code yX5_search cX5_search 2 (some .boolean), Cond.fieldLink RX5 24 "HeapMover$Network" "costs" "[I", Cond.constant RX5 52 (1000000), Cond.fieldLink RX5 27 "HeapMover$Network" "lastArcs" "[I", Cond.methodLink RX5 53 yJ7_fill_53178, Cond.static yJ7_fill_53178, Cond.initialized RJ7, Cond.code yJ7_fill_53178 cJ7_fill_53178 4 none, Cond.methodLink RX5 59 yX5_relax, Cond.instanceMethod yX5_relax]
def wsX8_leastCost_r4 : List Cond := [Cond.selects RX5 yX5_relax yX5_relax, Cond.code yX5_relax cX5_relax 4 (some .boolean), Cond.methodLink RX5 62 yX5_isReached, Cond.instanceMethod yX5_isReached, Cond.selects RX5 yX5_isReached yX5_isReached, Cond.code yX5_isReached cX5_isReached 2 (some .boolean), Cond.methodLink RX5 48 yX5_carry, Cond.instanceMethod yX5_carry, Cond.selects RX5 yX5_carry yX5_carry, Cond.code yX5_carry cX5_carry 5 none, Cond.methodLink RX5 66 Lib.Math.min.name]
def wsX8_leastCost : List Cond := .code yX8_leastCost cX8_leastCost 3 (some .int) :: ((wsX8_leastCost_r1 ++ (wsX8_leastCost_r2 ++ (wsX8_leastCost_r3 ++ wsX8_leastCost_r4))) ++ wsX80 ++ wsX20 ++ wsX40 ++ wsX30 ++ wsX50)
def wsX8_least_r1 : List Cond := [Cond.methodLink RX8 134 yX8_refusalOfMoving, Cond.instanceMethod yX8_refusalOfMoving, Cond.selects RX8 yX8_refusalOfMoving yX8_refusalOfMoving, Cond.initialized RX8, Cond.code yX8_refusalOfMoving cX8_refusalOfMoving 3 (some .int), Cond.fieldLink RX8 19 "HeapMover" "heaps" "LHeapMover$Heaps;", Cond.fieldLink RX8 12 "HeapMover" "land" "LHeapMover$Land;", Cond.methodLink RX8 99 yX2_has, Cond.instanceMethod yX2_has, Cond.selects RX2 yX2_has yX2_has, Cond.initialized RX2, Cond.code yX2_has cX2_has 2 (some .boolean), Cond.fieldLink RX2 16 "HeapMover$Heaps" "made" "I", Cond.methodLink RX8 177 yX3_isJoined, Cond.instanceMethod yX3_isJoined, Cond.selects RX3 yX3_isJoined yX3_isJoined, Cond.initialized RX3, Cond.code yX3_isJoined cX3_isJoined 2 (some .boolean), Cond.fieldLink RX3 32 "HeapMover$Land" "places" "I", Cond.fieldLink RX3 29 "HeapMover$Land" "distances" "[[I", Cond.constant RX3 42 (1000000), Cond.methodLink RX8 130 yX2_total, Cond.instanceMethod yX2_total, Cond.selects RX2 yX2_total yX2_total]
def wsX8_least_r2 : List Cond := [Cond.code yX2_total cX2_total 4 (some .int), Cond.fieldLink RX2 11 "HeapMover$Heaps" "amounts" "[[I", Cond.methodLink RX8 137 yX8_leastCost, Cond.instanceMethod yX8_leastCost, Cond.selects RX8 yX8_leastCost yX8_leastCost, Cond.code yX8_leastCost cX8_leastCost 3 (some .int), Cond.fieldLink RX8 40 "HeapMover" "mover" "LHeapMover$Mover;", Cond.fieldLink RX8 100 "HeapMover$Heaps" "amounts" "[[I", Cond.methodLink RX8 181 yX4_cheapest, Cond.instanceMethod yX4_cheapest, Cond.selects RX4 yX4_cheapest yX4_cheapest, Cond.initialized RX4, Cond.code yX4_cheapest cX4_cheapest 7 (some .int), Cond.fieldLink RX4 12 "HeapMover$Mover" "network" "LHeapMover$Network;", Cond.fieldLink RX4 21 "HeapMover$Land" "places" "I", Cond.constant RX4 31 (1000000), Cond.fieldLink RX4 32 "HeapMover$Land" "distances" "[[I", Cond.fieldLink RX4 51 "HeapMover$Network" "spent" "I", Cond.methodLink RX4 18 yX5_empty, Cond.instanceMethod yX5_empty, Cond.selects RX5 yX5_empty yX5_empty, Cond.initialized RX5, Cond.code yX5_empty cX5_empty 1 none, Cond.fieldLink RX5 30 "HeapMover$Network" "arcs" "I"]
def wsX8_least_r3 : List Cond := [Cond.fieldLink RX5 34 "HeapMover$Network" "moved" "I", Cond.fieldLink RX5 37 "HeapMover$Network" "spent" "I", Cond.methodLink RX4 27 yX4_joinSource, Cond.instanceMethod yX4_joinSource, Cond.selects RX4 yX4_joinSource yX4_joinSource, Cond.code yX4_joinSource cX4_joinSource 6 (some .int), Cond.methodLink RX4 36 yX5_join, Cond.instanceMethod yX5_join, Cond.selects RX5 yX5_join yX5_join, Cond.code yX5_join cX5_join 5 none, Cond.methodLink RX5 40 yX5_addArc, Cond.instanceMethod yX5_addArc, Cond.selects RX5 yX5_addArc yX5_addArc, Cond.code yX5_addArc cX5_addArc 5 none, Cond.fieldLink RX5 9 "HeapMover$Network" "tails" "[I", Cond.fieldLink RX5 15 "HeapMover$Network" "heads" "[I", Cond.fieldLink RX5 18 "HeapMover$Network" "rooms" "[I", Cond.fieldLink RX5 21 "HeapMover$Network" "prices" "[I", Cond.methodLink RX4 40 yX4_joinSink, Cond.instanceMethod yX4_joinSink, Cond.selects RX4 yX4_joinSink yX4_joinSink, Cond.code yX4_joinSink cX4_joinSink 5 none, Cond.methodLink RX4 44 yX4_staying, Cond.static yX4_staying]
def wsX8_least_r4 : List Cond := [Cond.code yX4_staying cX4_staying 5 (some .int), Cond.methodLink RX4 64 Lib.Math.min.name, Cond.static Lib.Math.min.name, Cond.initialized "java/lang/Math", Cond.code Lib.Math.min.name Lib.Math.min.code 2 (some .int), Cond.methodLink RX4 47 yX5_push, Cond.instanceMethod yX5_push, Cond.selects RX5 yX5_push yX5_push, Cond.code yX5_push cX5_push 3 none, Cond.methodLink RX5 44 yX5_search, Cond.instanceMethod yX5_search, Cond.selects RX5 yX5_search yX5_search, Cond.code yX5_search cX5_search 2 (some .boolean), Cond.fieldLink RX5 24 "HeapMover$Network" "costs" "[I", Cond.constant RX5 52 (1000000), Cond.fieldLink RX5 27 "HeapMover$Network" "lastArcs" "[I", Cond.methodLink RX5 53 yJ7_fill_53178, Cond.static yJ7_fill_53178, Cond.initialized RJ7, Cond.code yJ7_fill_53178 cJ7_fill_53178 4 none, Cond.methodLink RX5 59 yX5_relax, Cond.instanceMethod yX5_relax, Cond.selects RX5 yX5_relax yX5_relax, Cond.code yX5_relax cX5_relax 4 (some .boolean)]
def wsX8_least_r5 : List Cond := [Cond.methodLink RX5 62 yX5_isReached, Cond.instanceMethod yX5_isReached, Cond.selects RX5 yX5_isReached yX5_isReached, Cond.code yX5_isReached cX5_isReached 2 (some .boolean), Cond.methodLink RX5 48 yX5_carry, Cond.instanceMethod yX5_carry, Cond.selects RX5 yX5_carry yX5_carry, Cond.code yX5_carry cX5_carry 5 none, Cond.methodLink RX5 66 Lib.Math.min.name]
def wsX8_least : List Cond := .code yX8_least cX8_least 4 (some .int) :: ((wsX8_least_r1 ++ (wsX8_least_r2 ++ (wsX8_least_r3 ++ (wsX8_least_r4 ++ wsX8_least_r5)))) ++ wsX80 ++ wsX20 ++ wsX30 ++ wsX40 ++ wsX50)
def wsX8_refusalAtPlaces_r1 : List Cond := [Cond.fieldLink RX8 12 "HeapMover" "land" "LHeapMover$Land;", Cond.methodLink RX8 85 yX3_has, Cond.instanceMethod yX3_has, Cond.selects RX3 yX3_has yX3_has, Cond.initialized RX3, Cond.code yX3_has cX3_has 2 (some .boolean), Cond.fieldLink RX3 32 "HeapMover$Land" "places" "I", Cond.methodLink RX8 134 yX8_refusalOfMoving, Cond.instanceMethod yX8_refusalOfMoving, Cond.selects RX8 yX8_refusalOfMoving yX8_refusalOfMoving, Cond.initialized RX8, Cond.code yX8_refusalOfMoving cX8_refusalOfMoving 3 (some .int), Cond.fieldLink RX8 19 "HeapMover" "heaps" "LHeapMover$Heaps;", Cond.methodLink RX8 99 yX2_has, Cond.instanceMethod yX2_has, Cond.selects RX2 yX2_has yX2_has, Cond.initialized RX2, Cond.code yX2_has cX2_has 2 (some .boolean), Cond.fieldLink RX2 16 "HeapMover$Heaps" "made" "I", Cond.methodLink RX8 177 yX3_isJoined, Cond.instanceMethod yX3_isJoined, Cond.selects RX3 yX3_isJoined yX3_isJoined, Cond.code yX3_isJoined cX3_isJoined 2 (some .boolean), Cond.fieldLink RX3 29 "HeapMover$Land" "distances" "[[I"]
def wsX8_refusalAtPlaces_r2 : List Cond := [Cond.constant RX3 42 (1000000), Cond.methodLink RX8 130 yX2_total, Cond.instanceMethod yX2_total, Cond.selects RX2 yX2_total yX2_total, Cond.code yX2_total cX2_total 4 (some .int), Cond.fieldLink RX2 11 "HeapMover$Heaps" "amounts" "[[I"]
def wsX8_refusalAtPlaces : List Cond := .code yX8_refusalAtPlaces cX8_refusalAtPlaces 5 (some .int) :: ((wsX8_refusalAtPlaces_r1 ++ wsX8_refusalAtPlaces_r2) ++ wsX80 ++ wsX30 ++ wsX20)
def wsX8_makePlan_r1 : List Cond := [Cond.fieldLink RX8 58 "HeapMover" "plannedFrom" "I", Cond.fieldLink RX8 62 "HeapMover" "plannedTo" "I", Cond.fieldLink RX8 47 "HeapMover" "planner" "LHeapMover$Planner;", Cond.fieldLink RX8 12 "HeapMover" "land" "LHeapMover$Land;", Cond.fieldLink RX8 40 "HeapMover" "mover" "LHeapMover$Mover;", Cond.fieldLink RX8 19 "HeapMover" "heaps" "LHeapMover$Heaps;", Cond.fieldLink RX8 100 "HeapMover$Heaps" "amounts" "[[I", Cond.methodLink RX8 130 yX2_total, Cond.instanceMethod yX2_total, Cond.selects RX2 yX2_total yX2_total, Cond.initialized RX2, Cond.code yX2_total cX2_total 4 (some .int), Cond.fieldLink RX2 11 "HeapMover$Heaps" "amounts" "[[I", Cond.methodLink RX8 212 yX6_make, Cond.instanceMethod yX6_make, Cond.selects RX6 yX6_make yX6_make, Cond.initialized RX6, Cond.code yX6_make cX6_make 6 none, Cond.fieldLink RX6 35 "HeapMover$Land" "places" "I", Cond.fieldLink RX6 41 "HeapMover$Mover" "network" "LHeapMover$Network;", Cond.methodLink RX6 29 yX4_cheapest, Cond.instanceMethod yX4_cheapest, Cond.selects RX4 yX4_cheapest yX4_cheapest, Cond.initialized RX4]
def wsX8_makePlan_r2 : List Cond := [Cond.code yX4_cheapest cX4_cheapest 7 (some .int), Cond.fieldLink RX4 12 "HeapMover$Mover" "network" "LHeapMover$Network;", Cond.fieldLink RX4 21 "HeapMover$Land" "places" "I", Cond.constant RX4 31 (1000000), Cond.fieldLink RX4 32 "HeapMover$Land" "distances" "[[I", Cond.fieldLink RX4 51 "HeapMover$Network" "spent" "I", Cond.methodLink RX4 18 yX5_empty, Cond.instanceMethod yX5_empty, Cond.selects RX5 yX5_empty yX5_empty, Cond.initialized RX5, Cond.code yX5_empty cX5_empty 1 none, Cond.fieldLink RX5 30 "HeapMover$Network" "arcs" "I", Cond.fieldLink RX5 34 "HeapMover$Network" "moved" "I", Cond.fieldLink RX5 37 "HeapMover$Network" "spent" "I", Cond.methodLink RX4 27 yX4_joinSource, Cond.instanceMethod yX4_joinSource, Cond.selects RX4 yX4_joinSource yX4_joinSource, Cond.code yX4_joinSource cX4_joinSource 6 (some .int), Cond.methodLink RX4 36 yX5_join, Cond.instanceMethod yX5_join, Cond.selects RX5 yX5_join yX5_join, Cond.code yX5_join cX5_join 5 none, Cond.methodLink RX5 40 yX5_addArc, Cond.instanceMethod yX5_addArc]
def wsX8_makePlan_r3 : List Cond := [Cond.selects RX5 yX5_addArc yX5_addArc, Cond.code yX5_addArc cX5_addArc 5 none, Cond.fieldLink RX5 9 "HeapMover$Network" "tails" "[I", Cond.fieldLink RX5 15 "HeapMover$Network" "heads" "[I", Cond.fieldLink RX5 18 "HeapMover$Network" "rooms" "[I", Cond.fieldLink RX5 21 "HeapMover$Network" "prices" "[I", Cond.methodLink RX4 40 yX4_joinSink, Cond.instanceMethod yX4_joinSink, Cond.selects RX4 yX4_joinSink yX4_joinSink, Cond.code yX4_joinSink cX4_joinSink 5 none, Cond.methodLink RX4 44 yX4_staying, Cond.static yX4_staying, Cond.code yX4_staying cX4_staying 5 (some .int), Cond.methodLink RX4 64 Lib.Math.min.name, Cond.static Lib.Math.min.name, Cond.initialized "java/lang/Math", Cond.code Lib.Math.min.name Lib.Math.min.code 2 (some .int), Cond.methodLink RX4 47 yX5_push, Cond.instanceMethod yX5_push, Cond.selects RX5 yX5_push yX5_push, Cond.code yX5_push cX5_push 3 none, Cond.methodLink RX5 44 yX5_search, Cond.instanceMethod yX5_search, Cond.selects RX5 yX5_search yX5_search]
def wsX8_makePlan_r4 : List Cond := [Cond.code yX5_search cX5_search 2 (some .boolean), Cond.fieldLink RX5 24 "HeapMover$Network" "costs" "[I", Cond.constant RX5 52 (1000000), Cond.fieldLink RX5 27 "HeapMover$Network" "lastArcs" "[I", Cond.methodLink RX5 53 yJ7_fill_53178, Cond.static yJ7_fill_53178, Cond.initialized RJ7, Cond.code yJ7_fill_53178 cJ7_fill_53178 4 none, Cond.methodLink RX5 59 yX5_relax, Cond.instanceMethod yX5_relax, Cond.selects RX5 yX5_relax yX5_relax, Cond.code yX5_relax cX5_relax 4 (some .boolean), Cond.methodLink RX5 62 yX5_isReached, Cond.instanceMethod yX5_isReached, Cond.selects RX5 yX5_isReached yX5_isReached, Cond.code yX5_isReached cX5_isReached 2 (some .boolean), Cond.methodLink RX5 48 yX5_carry, Cond.instanceMethod yX5_carry, Cond.selects RX5 yX5_carry yX5_carry, Cond.code yX5_carry cX5_carry 5 none, Cond.methodLink RX5 66 Lib.Math.min.name, Cond.methodLink RX6 45 yX6_takeGoods, Cond.instanceMethod yX6_takeGoods, Cond.selects RX6 yX6_takeGoods yX6_takeGoods]
def wsX8_makePlan_r5 : List Cond := [Cond.code yX6_takeGoods cX6_takeGoods 8 none, Cond.fieldLink RX6 11 "HeapMover$Planner" "goods" "[[I", Cond.methodLink RX6 65 Lib.Math.min.name, Cond.fieldLink RX6 71 "HeapMover$Network" "arcs" "I", Cond.fieldLink RX6 76 "HeapMover$Network" "tails" "[I", Cond.fieldLink RX6 79 "HeapMover$Network" "heads" "[I", Cond.fieldLink RX6 82 "HeapMover$Network" "rooms" "[I", Cond.methodLink RX6 59 yJ7_fill_53178, Cond.methodLink RX6 49 yX6_raiseHeights, Cond.instanceMethod yX6_raiseHeights, Cond.selects RX6 yX6_raiseHeights yX6_raiseHeights, Cond.code yX6_raiseHeights cX6_raiseHeights 3 none, Cond.fieldLink RX6 16 "HeapMover$Planner" "heights" "[I", Cond.fieldLink RX6 56 "HeapMover$Land" "distances" "[[I", Cond.methodLink RX6 85 yX6_lowerHeights, Cond.instanceMethod yX6_lowerHeights, Cond.selects RX6 yX6_lowerHeights yX6_lowerHeights, Cond.code yX6_lowerHeights cX6_lowerHeights 6 (some .boolean), Cond.methodLink RX6 53 yX6_putFirst, Cond.instanceMethod yX6_putFirst, Cond.selects RX6 yX6_putFirst yX6_putFirst, Cond.code yX6_putFirst cX6_putFirst 6 none, Cond.methodLink RX6 89 yX6_isTight, Cond.instanceMethod yX6_isTight]
def wsX8_makePlan_r6 : List Cond := [Cond.selects RX6 yX6_isTight yX6_isTight, Cond.code yX6_isTight cX6_isTight 4 (some .boolean), Cond.methodLink RX6 93 yX6_cell, Cond.static yX6_cell, Cond.code yX6_cell cX6_cell 2 (some .int), Cond.methodLink RX6 96 yX6_findRing, Cond.instanceMethod yX6_findRing, Cond.selects RX6 yX6_findRing yX6_findRing, Cond.code yX6_findRing cX6_findRing 10 (some .boolean), Cond.fieldLink RX6 20 "HeapMover$Planner" "rowFrom" "[I", Cond.fieldLink RX6 23 "HeapMover$Planner" "columnFrom" "[I", Cond.fieldLink RX6 26 "HeapMover$Planner" "columns" "[I", Cond.methodLink RX6 104 yX6_reachColumns, Cond.instanceMethod yX6_reachColumns, Cond.selects RX6 yX6_reachColumns yX6_reachColumns, Cond.code yX6_reachColumns cX6_reachColumns 7 (some .int), Cond.methodLink RX6 100 yX6_turnRing, Cond.instanceMethod yX6_turnRing, Cond.selects RX6 yX6_turnRing yX6_turnRing, Cond.code yX6_turnRing cX6_turnRing 7 none, Cond.methodLink RX6 108 yX6_ringAmount, Cond.instanceMethod yX6_ringAmount, Cond.selects RX6 yX6_ringAmount yX6_ringAmount, Cond.code yX6_ringAmount cX6_ringAmount 7 (some .int)]
def wsX8_makePlan : List Cond := .code yX8_makePlan cX8_makePlan 3 none :: ((wsX8_makePlan_r1 ++ (wsX8_makePlan_r2 ++ (wsX8_makePlan_r3 ++ (wsX8_makePlan_r4 ++ (wsX8_makePlan_r5 ++ wsX8_makePlan_r6))))) ++ wsX80 ++ wsX20 ++ wsX30 ++ wsX40 ++ wsX50 ++ wsX60)
def wsX8_plan_r1 : List Cond := [Cond.fieldLink RX8 47 "HeapMover" "planner" "LHeapMover$Planner;", Cond.fieldLink RX8 148 "HeapMover$Planner" "goods" "[[I", Cond.methodLink RX8 140 yX8_refusalAtPlaces, Cond.instanceMethod yX8_refusalAtPlaces, Cond.selects RX8 yX8_refusalAtPlaces yX8_refusalAtPlaces, Cond.initialized RX8, Cond.code yX8_refusalAtPlaces cX8_refusalAtPlaces 5 (some .int), Cond.fieldLink RX8 12 "HeapMover" "land" "LHeapMover$Land;", Cond.methodLink RX8 85 yX3_has, Cond.instanceMethod yX3_has, Cond.selects RX3 yX3_has yX3_has, Cond.initialized RX3, Cond.code yX3_has cX3_has 2 (some .boolean), Cond.fieldLink RX3 32 "HeapMover$Land" "places" "I", Cond.methodLink RX8 134 yX8_refusalOfMoving, Cond.instanceMethod yX8_refusalOfMoving, Cond.selects RX8 yX8_refusalOfMoving yX8_refusalOfMoving, Cond.code yX8_refusalOfMoving cX8_refusalOfMoving 3 (some .int), Cond.fieldLink RX8 19 "HeapMover" "heaps" "LHeapMover$Heaps;", Cond.methodLink RX8 99 yX2_has, Cond.instanceMethod yX2_has, Cond.selects RX2 yX2_has yX2_has, Cond.initialized RX2, Cond.code yX2_has cX2_has 2 (some .boolean)]
def wsX8_plan_r2 : List Cond := [Cond.fieldLink RX2 16 "HeapMover$Heaps" "made" "I", Cond.methodLink RX8 177 yX3_isJoined, Cond.instanceMethod yX3_isJoined, Cond.selects RX3 yX3_isJoined yX3_isJoined, Cond.code yX3_isJoined cX3_isJoined 2 (some .boolean), Cond.fieldLink RX3 29 "HeapMover$Land" "distances" "[[I", Cond.constant RX3 42 (1000000), Cond.methodLink RX8 130 yX2_total, Cond.instanceMethod yX2_total, Cond.selects RX2 yX2_total yX2_total, Cond.code yX2_total cX2_total 4 (some .int), Cond.fieldLink RX2 11 "HeapMover$Heaps" "amounts" "[[I", Cond.methodLink RX8 144 yX8_makePlan, Cond.instanceMethod yX8_makePlan, Cond.selects RX8 yX8_makePlan yX8_makePlan, Cond.code yX8_makePlan cX8_makePlan 3 none, Cond.fieldLink RX8 58 "HeapMover" "plannedFrom" "I", Cond.fieldLink RX8 62 "HeapMover" "plannedTo" "I", Cond.fieldLink RX8 40 "HeapMover" "mover" "LHeapMover$Mover;", Cond.fieldLink RX8 100 "HeapMover$Heaps" "amounts" "[[I", Cond.methodLink RX8 212 yX6_make, Cond.instanceMethod yX6_make, Cond.selects RX6 yX6_make yX6_make, Cond.initialized RX6]
def wsX8_plan_r3 : List Cond := [Cond.code yX6_make cX6_make 6 none, Cond.fieldLink RX6 35 "HeapMover$Land" "places" "I", Cond.fieldLink RX6 41 "HeapMover$Mover" "network" "LHeapMover$Network;", Cond.methodLink RX6 29 yX4_cheapest, Cond.instanceMethod yX4_cheapest, Cond.selects RX4 yX4_cheapest yX4_cheapest, Cond.initialized RX4, Cond.code yX4_cheapest cX4_cheapest 7 (some .int), Cond.fieldLink RX4 12 "HeapMover$Mover" "network" "LHeapMover$Network;", Cond.fieldLink RX4 21 "HeapMover$Land" "places" "I", Cond.constant RX4 31 (1000000), Cond.fieldLink RX4 32 "HeapMover$Land" "distances" "[[I", Cond.fieldLink RX4 51 "HeapMover$Network" "spent" "I", Cond.methodLink RX4 18 yX5_empty, Cond.instanceMethod yX5_empty, Cond.selects RX5 yX5_empty yX5_empty, Cond.initialized RX5, Cond.code yX5_empty cX5_empty 1 none, Cond.fieldLink RX5 30 "HeapMover$Network" "arcs" "I", Cond.fieldLink RX5 34 "HeapMover$Network" "moved" "I", Cond.fieldLink RX5 37 "HeapMover$Network" "spent" "I", Cond.methodLink RX4 27 yX4_joinSource, Cond.instanceMethod yX4_joinSource, Cond.selects RX4 yX4_joinSource yX4_joinSource]
def wsX8_plan_r4 : List Cond := [Cond.code yX4_joinSource cX4_joinSource 6 (some .int), Cond.methodLink RX4 36 yX5_join, Cond.instanceMethod yX5_join, Cond.selects RX5 yX5_join yX5_join, Cond.code yX5_join cX5_join 5 none, Cond.methodLink RX5 40 yX5_addArc, Cond.instanceMethod yX5_addArc, Cond.selects RX5 yX5_addArc yX5_addArc, Cond.code yX5_addArc cX5_addArc 5 none, Cond.fieldLink RX5 9 "HeapMover$Network" "tails" "[I", Cond.fieldLink RX5 15 "HeapMover$Network" "heads" "[I", Cond.fieldLink RX5 18 "HeapMover$Network" "rooms" "[I", Cond.fieldLink RX5 21 "HeapMover$Network" "prices" "[I", Cond.methodLink RX4 40 yX4_joinSink, Cond.instanceMethod yX4_joinSink, Cond.selects RX4 yX4_joinSink yX4_joinSink, Cond.code yX4_joinSink cX4_joinSink 5 none, Cond.methodLink RX4 44 yX4_staying, Cond.static yX4_staying, Cond.code yX4_staying cX4_staying 5 (some .int), Cond.methodLink RX4 64 Lib.Math.min.name, Cond.static Lib.Math.min.name, Cond.initialized "java/lang/Math", Cond.code Lib.Math.min.name Lib.Math.min.code 2 (some .int)]
def wsX8_plan_r5 : List Cond := [Cond.methodLink RX4 47 yX5_push, Cond.instanceMethod yX5_push, Cond.selects RX5 yX5_push yX5_push, Cond.code yX5_push cX5_push 3 none, Cond.methodLink RX5 44 yX5_search, Cond.instanceMethod yX5_search, Cond.selects RX5 yX5_search yX5_search, Cond.code yX5_search cX5_search 2 (some .boolean), Cond.fieldLink RX5 24 "HeapMover$Network" "costs" "[I", Cond.constant RX5 52 (1000000), Cond.fieldLink RX5 27 "HeapMover$Network" "lastArcs" "[I", Cond.methodLink RX5 53 yJ7_fill_53178, Cond.static yJ7_fill_53178, Cond.initialized RJ7, Cond.code yJ7_fill_53178 cJ7_fill_53178 4 none, Cond.methodLink RX5 59 yX5_relax, Cond.instanceMethod yX5_relax, Cond.selects RX5 yX5_relax yX5_relax, Cond.code yX5_relax cX5_relax 4 (some .boolean), Cond.methodLink RX5 62 yX5_isReached, Cond.instanceMethod yX5_isReached, Cond.selects RX5 yX5_isReached yX5_isReached, Cond.code yX5_isReached cX5_isReached 2 (some .boolean), Cond.methodLink RX5 48 yX5_carry]
def wsX8_plan_r6 : List Cond := [Cond.instanceMethod yX5_carry, Cond.selects RX5 yX5_carry yX5_carry, Cond.code yX5_carry cX5_carry 5 none, Cond.methodLink RX5 66 Lib.Math.min.name, Cond.methodLink RX6 45 yX6_takeGoods, Cond.instanceMethod yX6_takeGoods, Cond.selects RX6 yX6_takeGoods yX6_takeGoods, Cond.code yX6_takeGoods cX6_takeGoods 8 none, Cond.fieldLink RX6 11 "HeapMover$Planner" "goods" "[[I", Cond.methodLink RX6 65 Lib.Math.min.name, Cond.fieldLink RX6 71 "HeapMover$Network" "arcs" "I", Cond.fieldLink RX6 76 "HeapMover$Network" "tails" "[I", Cond.fieldLink RX6 79 "HeapMover$Network" "heads" "[I", Cond.fieldLink RX6 82 "HeapMover$Network" "rooms" "[I", Cond.methodLink RX6 59 yJ7_fill_53178, Cond.methodLink RX6 49 yX6_raiseHeights, Cond.instanceMethod yX6_raiseHeights, Cond.selects RX6 yX6_raiseHeights yX6_raiseHeights, Cond.code yX6_raiseHeights cX6_raiseHeights 3 none, Cond.fieldLink RX6 16 "HeapMover$Planner" "heights" "[I", Cond.fieldLink RX6 56 "HeapMover$Land" "distances" "[[I", Cond.methodLink RX6 85 yX6_lowerHeights, Cond.instanceMethod yX6_lowerHeights, Cond.selects RX6 yX6_lowerHeights yX6_lowerHeights]
def wsX8_plan_r7 : List Cond := [Cond.code yX6_lowerHeights cX6_lowerHeights 6 (some .boolean), Cond.methodLink RX6 53 yX6_putFirst, Cond.instanceMethod yX6_putFirst, Cond.selects RX6 yX6_putFirst yX6_putFirst, Cond.code yX6_putFirst cX6_putFirst 6 none, Cond.methodLink RX6 89 yX6_isTight, Cond.instanceMethod yX6_isTight, Cond.selects RX6 yX6_isTight yX6_isTight, Cond.code yX6_isTight cX6_isTight 4 (some .boolean), Cond.methodLink RX6 93 yX6_cell, Cond.static yX6_cell, Cond.code yX6_cell cX6_cell 2 (some .int), Cond.methodLink RX6 96 yX6_findRing, Cond.instanceMethod yX6_findRing, Cond.selects RX6 yX6_findRing yX6_findRing, Cond.code yX6_findRing cX6_findRing 10 (some .boolean), Cond.fieldLink RX6 20 "HeapMover$Planner" "rowFrom" "[I", Cond.fieldLink RX6 23 "HeapMover$Planner" "columnFrom" "[I", Cond.fieldLink RX6 26 "HeapMover$Planner" "columns" "[I", Cond.methodLink RX6 104 yX6_reachColumns, Cond.instanceMethod yX6_reachColumns, Cond.selects RX6 yX6_reachColumns yX6_reachColumns, Cond.code yX6_reachColumns cX6_reachColumns 7 (some .int), Cond.methodLink RX6 100 yX6_turnRing]
def wsX8_plan_r8 : List Cond := [Cond.instanceMethod yX6_turnRing, Cond.selects RX6 yX6_turnRing yX6_turnRing, Cond.code yX6_turnRing cX6_turnRing 7 none, Cond.methodLink RX6 108 yX6_ringAmount, Cond.instanceMethod yX6_ringAmount, Cond.selects RX6 yX6_ringAmount yX6_ringAmount, Cond.code yX6_ringAmount cX6_ringAmount 7 (some .int)]
def wsX8_plan : List Cond := .code yX8_plan cX8_plan 6 (some .int) :: ((wsX8_plan_r1 ++ (wsX8_plan_r2 ++ (wsX8_plan_r3 ++ (wsX8_plan_r4 ++ (wsX8_plan_r5 ++ (wsX8_plan_r6 ++ (wsX8_plan_r7 ++ wsX8_plan_r8))))))) ++ wsX80 ++ wsX60 ++ wsX30 ++ wsX20 ++ wsX40 ++ wsX50)
def wsX8_alone_r1 : List Cond := [Cond.fieldLink RX8 47 "HeapMover" "planner" "LHeapMover$Planner;", Cond.fieldLink RX8 12 "HeapMover" "land" "LHeapMover$Land;", Cond.methodLink RX8 134 yX8_refusalOfMoving, Cond.instanceMethod yX8_refusalOfMoving, Cond.selects RX8 yX8_refusalOfMoving yX8_refusalOfMoving, Cond.initialized RX8, Cond.code yX8_refusalOfMoving cX8_refusalOfMoving 3 (some .int), Cond.fieldLink RX8 19 "HeapMover" "heaps" "LHeapMover$Heaps;", Cond.methodLink RX8 99 yX2_has, Cond.instanceMethod yX2_has, Cond.selects RX2 yX2_has yX2_has, Cond.initialized RX2, Cond.code yX2_has cX2_has 2 (some .boolean), Cond.fieldLink RX2 16 "HeapMover$Heaps" "made" "I", Cond.methodLink RX8 177 yX3_isJoined, Cond.instanceMethod yX3_isJoined, Cond.selects RX3 yX3_isJoined yX3_isJoined, Cond.initialized RX3, Cond.code yX3_isJoined cX3_isJoined 2 (some .boolean), Cond.fieldLink RX3 32 "HeapMover$Land" "places" "I", Cond.fieldLink RX3 29 "HeapMover$Land" "distances" "[[I", Cond.constant RX3 42 (1000000), Cond.methodLink RX8 130 yX2_total, Cond.instanceMethod yX2_total]
def wsX8_alone_r2 : List Cond := [Cond.selects RX2 yX2_total yX2_total, Cond.code yX2_total cX2_total 4 (some .int), Cond.fieldLink RX2 11 "HeapMover$Heaps" "amounts" "[[I", Cond.methodLink RX8 144 yX8_makePlan, Cond.instanceMethod yX8_makePlan, Cond.selects RX8 yX8_makePlan yX8_makePlan, Cond.code yX8_makePlan cX8_makePlan 3 none, Cond.fieldLink RX8 58 "HeapMover" "plannedFrom" "I", Cond.fieldLink RX8 62 "HeapMover" "plannedTo" "I", Cond.fieldLink RX8 40 "HeapMover" "mover" "LHeapMover$Mover;", Cond.fieldLink RX8 100 "HeapMover$Heaps" "amounts" "[[I", Cond.methodLink RX8 212 yX6_make, Cond.instanceMethod yX6_make, Cond.selects RX6 yX6_make yX6_make, Cond.initialized RX6, Cond.code yX6_make cX6_make 6 none, Cond.fieldLink RX6 35 "HeapMover$Land" "places" "I", Cond.fieldLink RX6 41 "HeapMover$Mover" "network" "LHeapMover$Network;", Cond.methodLink RX6 29 yX4_cheapest, Cond.instanceMethod yX4_cheapest, Cond.selects RX4 yX4_cheapest yX4_cheapest, Cond.initialized RX4, Cond.code yX4_cheapest cX4_cheapest 7 (some .int), Cond.fieldLink RX4 12 "HeapMover$Mover" "network" "LHeapMover$Network;"]
def wsX8_alone_r3 : List Cond := [Cond.fieldLink RX4 21 "HeapMover$Land" "places" "I", Cond.constant RX4 31 (1000000), Cond.fieldLink RX4 32 "HeapMover$Land" "distances" "[[I", Cond.fieldLink RX4 51 "HeapMover$Network" "spent" "I", Cond.methodLink RX4 18 yX5_empty, Cond.instanceMethod yX5_empty, Cond.selects RX5 yX5_empty yX5_empty, Cond.initialized RX5, Cond.code yX5_empty cX5_empty 1 none, Cond.fieldLink RX5 30 "HeapMover$Network" "arcs" "I", Cond.fieldLink RX5 34 "HeapMover$Network" "moved" "I", Cond.fieldLink RX5 37 "HeapMover$Network" "spent" "I", Cond.methodLink RX4 27 yX4_joinSource, Cond.instanceMethod yX4_joinSource, Cond.selects RX4 yX4_joinSource yX4_joinSource, Cond.code yX4_joinSource cX4_joinSource 6 (some .int), Cond.methodLink RX4 36 yX5_join, Cond.instanceMethod yX5_join, Cond.selects RX5 yX5_join yX5_join, Cond.code yX5_join cX5_join 5 none, Cond.methodLink RX5 40 yX5_addArc, Cond.instanceMethod yX5_addArc, Cond.selects RX5 yX5_addArc yX5_addArc, Cond.code yX5_addArc cX5_addArc 5 none]
def wsX8_alone_r4 : List Cond := [Cond.fieldLink RX5 9 "HeapMover$Network" "tails" "[I", Cond.fieldLink RX5 15 "HeapMover$Network" "heads" "[I", Cond.fieldLink RX5 18 "HeapMover$Network" "rooms" "[I", Cond.fieldLink RX5 21 "HeapMover$Network" "prices" "[I", Cond.methodLink RX4 40 yX4_joinSink, Cond.instanceMethod yX4_joinSink, Cond.selects RX4 yX4_joinSink yX4_joinSink, Cond.code yX4_joinSink cX4_joinSink 5 none, Cond.methodLink RX4 44 yX4_staying, Cond.static yX4_staying, Cond.code yX4_staying cX4_staying 5 (some .int), Cond.methodLink RX4 64 Lib.Math.min.name, Cond.static Lib.Math.min.name, Cond.initialized "java/lang/Math", Cond.code Lib.Math.min.name Lib.Math.min.code 2 (some .int), Cond.methodLink RX4 47 yX5_push, Cond.instanceMethod yX5_push, Cond.selects RX5 yX5_push yX5_push, Cond.code yX5_push cX5_push 3 none, Cond.methodLink RX5 44 yX5_search, Cond.instanceMethod yX5_search, Cond.selects RX5 yX5_search yX5_search, Cond.code yX5_search cX5_search 2 (some .boolean), Cond.fieldLink RX5 24 "HeapMover$Network" "costs" "[I"]
def wsX8_alone_r5 : List Cond := [Cond.constant RX5 52 (1000000), Cond.fieldLink RX5 27 "HeapMover$Network" "lastArcs" "[I", Cond.methodLink RX5 53 yJ7_fill_53178, Cond.static yJ7_fill_53178, Cond.initialized RJ7, Cond.code yJ7_fill_53178 cJ7_fill_53178 4 none, Cond.methodLink RX5 59 yX5_relax, Cond.instanceMethod yX5_relax, Cond.selects RX5 yX5_relax yX5_relax, Cond.code yX5_relax cX5_relax 4 (some .boolean), Cond.methodLink RX5 62 yX5_isReached, Cond.instanceMethod yX5_isReached, Cond.selects RX5 yX5_isReached yX5_isReached, Cond.code yX5_isReached cX5_isReached 2 (some .boolean), Cond.methodLink RX5 48 yX5_carry, Cond.instanceMethod yX5_carry, Cond.selects RX5 yX5_carry yX5_carry, Cond.code yX5_carry cX5_carry 5 none, Cond.methodLink RX5 66 Lib.Math.min.name, Cond.methodLink RX6 45 yX6_takeGoods, Cond.instanceMethod yX6_takeGoods, Cond.selects RX6 yX6_takeGoods yX6_takeGoods, Cond.code yX6_takeGoods cX6_takeGoods 8 none, Cond.fieldLink RX6 11 "HeapMover$Planner" "goods" "[[I"]
def wsX8_alone_r6 : List Cond := [Cond.methodLink RX6 65 Lib.Math.min.name, Cond.fieldLink RX6 71 "HeapMover$Network" "arcs" "I", Cond.fieldLink RX6 76 "HeapMover$Network" "tails" "[I", Cond.fieldLink RX6 79 "HeapMover$Network" "heads" "[I", Cond.fieldLink RX6 82 "HeapMover$Network" "rooms" "[I", Cond.methodLink RX6 59 yJ7_fill_53178, Cond.methodLink RX6 49 yX6_raiseHeights, Cond.instanceMethod yX6_raiseHeights, Cond.selects RX6 yX6_raiseHeights yX6_raiseHeights, Cond.code yX6_raiseHeights cX6_raiseHeights 3 none, Cond.fieldLink RX6 16 "HeapMover$Planner" "heights" "[I", Cond.fieldLink RX6 56 "HeapMover$Land" "distances" "[[I", Cond.methodLink RX6 85 yX6_lowerHeights, Cond.instanceMethod yX6_lowerHeights, Cond.selects RX6 yX6_lowerHeights yX6_lowerHeights, Cond.code yX6_lowerHeights cX6_lowerHeights 6 (some .boolean), Cond.methodLink RX6 53 yX6_putFirst, Cond.instanceMethod yX6_putFirst, Cond.selects RX6 yX6_putFirst yX6_putFirst, Cond.code yX6_putFirst cX6_putFirst 6 none, Cond.methodLink RX6 89 yX6_isTight, Cond.instanceMethod yX6_isTight, Cond.selects RX6 yX6_isTight yX6_isTight, Cond.code yX6_isTight cX6_isTight 4 (some .boolean)]
def wsX8_alone_r7 : List Cond := [Cond.methodLink RX6 93 yX6_cell, Cond.static yX6_cell, Cond.code yX6_cell cX6_cell 2 (some .int), Cond.methodLink RX6 96 yX6_findRing, Cond.instanceMethod yX6_findRing, Cond.selects RX6 yX6_findRing yX6_findRing, Cond.code yX6_findRing cX6_findRing 10 (some .boolean), Cond.fieldLink RX6 20 "HeapMover$Planner" "rowFrom" "[I", Cond.fieldLink RX6 23 "HeapMover$Planner" "columnFrom" "[I", Cond.fieldLink RX6 26 "HeapMover$Planner" "columns" "[I", Cond.methodLink RX6 104 yX6_reachColumns, Cond.instanceMethod yX6_reachColumns, Cond.selects RX6 yX6_reachColumns yX6_reachColumns, Cond.code yX6_reachColumns cX6_reachColumns 7 (some .int), Cond.methodLink RX6 100 yX6_turnRing, Cond.instanceMethod yX6_turnRing, Cond.selects RX6 yX6_turnRing yX6_turnRing, Cond.code yX6_turnRing cX6_turnRing 7 none, Cond.methodLink RX6 108 yX6_ringAmount, Cond.instanceMethod yX6_ringAmount, Cond.selects RX6 yX6_ringAmount yX6_ringAmount, Cond.code yX6_ringAmount cX6_ringAmount 7 (some .int), Cond.methodLink RX8 151 yX6_hasOther, Cond.instanceMethod yX6_hasOther]
def wsX8_alone_r8 : List Cond := [Cond.selects RX6 yX6_hasOther yX6_hasOther, Cond.code yX6_hasOther cX6_hasOther 4 (some .boolean)]
def wsX8_alone : List Cond := .code yX8_alone cX8_alone 4 (some .int) :: ((wsX8_alone_r1 ++ (wsX8_alone_r2 ++ (wsX8_alone_r3 ++ (wsX8_alone_r4 ++ (wsX8_alone_r5 ++ (wsX8_alone_r6 ++ (wsX8_alone_r7 ++ wsX8_alone_r8))))))) ++ wsX80 ++ wsX20 ++ wsX30 ++ wsX40 ++ wsX50 ++ wsX60)
def wsX8_height_r1 : List Cond := [Cond.constant RX8 155 (-2147483648), Cond.fieldLink RX8 47 "HeapMover" "planner" "LHeapMover$Planner;", Cond.fieldLink RX8 156 "HeapMover$Planner" "heights" "[I", Cond.methodLink RX8 140 yX8_refusalAtPlaces, Cond.instanceMethod yX8_refusalAtPlaces, Cond.selects RX8 yX8_refusalAtPlaces yX8_refusalAtPlaces, Cond.initialized RX8, Cond.code yX8_refusalAtPlaces cX8_refusalAtPlaces 5 (some .int), Cond.fieldLink RX8 12 "HeapMover" "land" "LHeapMover$Land;", Cond.methodLink RX8 85 yX3_has, Cond.instanceMethod yX3_has, Cond.selects RX3 yX3_has yX3_has, Cond.initialized RX3, Cond.code yX3_has cX3_has 2 (some .boolean), Cond.fieldLink RX3 32 "HeapMover$Land" "places" "I", Cond.methodLink RX8 134 yX8_refusalOfMoving, Cond.instanceMethod yX8_refusalOfMoving, Cond.selects RX8 yX8_refusalOfMoving yX8_refusalOfMoving, Cond.code yX8_refusalOfMoving cX8_refusalOfMoving 3 (some .int), Cond.fieldLink RX8 19 "HeapMover" "heaps" "LHeapMover$Heaps;", Cond.methodLink RX8 99 yX2_has, Cond.instanceMethod yX2_has, Cond.selects RX2 yX2_has yX2_has, Cond.initialized RX2]
def wsX8_height_r2 : List Cond := [Cond.code yX2_has cX2_has 2 (some .boolean), Cond.fieldLink RX2 16 "HeapMover$Heaps" "made" "I", Cond.methodLink RX8 177 yX3_isJoined, Cond.instanceMethod yX3_isJoined, Cond.selects RX3 yX3_isJoined yX3_isJoined, Cond.code yX3_isJoined cX3_isJoined 2 (some .boolean), Cond.fieldLink RX3 29 "HeapMover$Land" "distances" "[[I", Cond.constant RX3 42 (1000000), Cond.methodLink RX8 130 yX2_total, Cond.instanceMethod yX2_total, Cond.selects RX2 yX2_total yX2_total, Cond.code yX2_total cX2_total 4 (some .int), Cond.fieldLink RX2 11 "HeapMover$Heaps" "amounts" "[[I", Cond.methodLink RX8 144 yX8_makePlan, Cond.instanceMethod yX8_makePlan, Cond.selects RX8 yX8_makePlan yX8_makePlan, Cond.code yX8_makePlan cX8_makePlan 3 none, Cond.fieldLink RX8 58 "HeapMover" "plannedFrom" "I", Cond.fieldLink RX8 62 "HeapMover" "plannedTo" "I", Cond.fieldLink RX8 40 "HeapMover" "mover" "LHeapMover$Mover;", Cond.fieldLink RX8 100 "HeapMover$Heaps" "amounts" "[[I", Cond.methodLink RX8 212 yX6_make, Cond.instanceMethod yX6_make, Cond.selects RX6 yX6_make yX6_make]
def wsX8_height_r3 : List Cond := [Cond.initialized RX6, Cond.code yX6_make cX6_make 6 none, Cond.fieldLink RX6 35 "HeapMover$Land" "places" "I", Cond.fieldLink RX6 41 "HeapMover$Mover" "network" "LHeapMover$Network;", Cond.methodLink RX6 29 yX4_cheapest, Cond.instanceMethod yX4_cheapest, Cond.selects RX4 yX4_cheapest yX4_cheapest, Cond.initialized RX4, Cond.code yX4_cheapest cX4_cheapest 7 (some .int), Cond.fieldLink RX4 12 "HeapMover$Mover" "network" "LHeapMover$Network;", Cond.fieldLink RX4 21 "HeapMover$Land" "places" "I", Cond.constant RX4 31 (1000000), Cond.fieldLink RX4 32 "HeapMover$Land" "distances" "[[I", Cond.fieldLink RX4 51 "HeapMover$Network" "spent" "I", Cond.methodLink RX4 18 yX5_empty, Cond.instanceMethod yX5_empty, Cond.selects RX5 yX5_empty yX5_empty, Cond.initialized RX5, Cond.code yX5_empty cX5_empty 1 none, Cond.fieldLink RX5 30 "HeapMover$Network" "arcs" "I", Cond.fieldLink RX5 34 "HeapMover$Network" "moved" "I", Cond.fieldLink RX5 37 "HeapMover$Network" "spent" "I", Cond.methodLink RX4 27 yX4_joinSource, Cond.instanceMethod yX4_joinSource]
def wsX8_height_r4 : List Cond := [Cond.selects RX4 yX4_joinSource yX4_joinSource, Cond.code yX4_joinSource cX4_joinSource 6 (some .int), Cond.methodLink RX4 36 yX5_join, Cond.instanceMethod yX5_join, Cond.selects RX5 yX5_join yX5_join, Cond.code yX5_join cX5_join 5 none, Cond.methodLink RX5 40 yX5_addArc, Cond.instanceMethod yX5_addArc, Cond.selects RX5 yX5_addArc yX5_addArc, Cond.code yX5_addArc cX5_addArc 5 none, Cond.fieldLink RX5 9 "HeapMover$Network" "tails" "[I", Cond.fieldLink RX5 15 "HeapMover$Network" "heads" "[I", Cond.fieldLink RX5 18 "HeapMover$Network" "rooms" "[I", Cond.fieldLink RX5 21 "HeapMover$Network" "prices" "[I", Cond.methodLink RX4 40 yX4_joinSink, Cond.instanceMethod yX4_joinSink, Cond.selects RX4 yX4_joinSink yX4_joinSink, Cond.code yX4_joinSink cX4_joinSink 5 none, Cond.methodLink RX4 44 yX4_staying, Cond.static yX4_staying, Cond.code yX4_staying cX4_staying 5 (some .int), Cond.methodLink RX4 64 Lib.Math.min.name, Cond.static Lib.Math.min.name, Cond.initialized "java/lang/Math"]
def wsX8_height_r5 : List Cond := [Cond.code Lib.Math.min.name Lib.Math.min.code 2 (some .int), Cond.methodLink RX4 47 yX5_push, Cond.instanceMethod yX5_push, Cond.selects RX5 yX5_push yX5_push, Cond.code yX5_push cX5_push 3 none, Cond.methodLink RX5 44 yX5_search, Cond.instanceMethod yX5_search, Cond.selects RX5 yX5_search yX5_search, Cond.code yX5_search cX5_search 2 (some .boolean), Cond.fieldLink RX5 24 "HeapMover$Network" "costs" "[I", Cond.constant RX5 52 (1000000), Cond.fieldLink RX5 27 "HeapMover$Network" "lastArcs" "[I", Cond.methodLink RX5 53 yJ7_fill_53178, Cond.static yJ7_fill_53178, Cond.initialized RJ7, Cond.code yJ7_fill_53178 cJ7_fill_53178 4 none, Cond.methodLink RX5 59 yX5_relax, Cond.instanceMethod yX5_relax, Cond.selects RX5 yX5_relax yX5_relax, Cond.code yX5_relax cX5_relax 4 (some .boolean), Cond.methodLink RX5 62 yX5_isReached, Cond.instanceMethod yX5_isReached, Cond.selects RX5 yX5_isReached yX5_isReached, Cond.code yX5_isReached cX5_isReached 2 (some .boolean)]
def wsX8_height_r6 : List Cond := [Cond.methodLink RX5 48 yX5_carry, Cond.instanceMethod yX5_carry, Cond.selects RX5 yX5_carry yX5_carry, Cond.code yX5_carry cX5_carry 5 none, Cond.methodLink RX5 66 Lib.Math.min.name, Cond.methodLink RX6 45 yX6_takeGoods, Cond.instanceMethod yX6_takeGoods, Cond.selects RX6 yX6_takeGoods yX6_takeGoods, Cond.code yX6_takeGoods cX6_takeGoods 8 none, Cond.fieldLink RX6 11 "HeapMover$Planner" "goods" "[[I", Cond.methodLink RX6 65 Lib.Math.min.name, Cond.fieldLink RX6 71 "HeapMover$Network" "arcs" "I", Cond.fieldLink RX6 76 "HeapMover$Network" "tails" "[I", Cond.fieldLink RX6 79 "HeapMover$Network" "heads" "[I", Cond.fieldLink RX6 82 "HeapMover$Network" "rooms" "[I", Cond.methodLink RX6 59 yJ7_fill_53178, Cond.methodLink RX6 49 yX6_raiseHeights, Cond.instanceMethod yX6_raiseHeights, Cond.selects RX6 yX6_raiseHeights yX6_raiseHeights, Cond.code yX6_raiseHeights cX6_raiseHeights 3 none, Cond.fieldLink RX6 16 "HeapMover$Planner" "heights" "[I", Cond.fieldLink RX6 56 "HeapMover$Land" "distances" "[[I", Cond.methodLink RX6 85 yX6_lowerHeights, Cond.instanceMethod yX6_lowerHeights]
def wsX8_height_r7 : List Cond := [Cond.selects RX6 yX6_lowerHeights yX6_lowerHeights, Cond.code yX6_lowerHeights cX6_lowerHeights 6 (some .boolean), Cond.methodLink RX6 53 yX6_putFirst, Cond.instanceMethod yX6_putFirst, Cond.selects RX6 yX6_putFirst yX6_putFirst, Cond.code yX6_putFirst cX6_putFirst 6 none, Cond.methodLink RX6 89 yX6_isTight, Cond.instanceMethod yX6_isTight, Cond.selects RX6 yX6_isTight yX6_isTight, Cond.code yX6_isTight cX6_isTight 4 (some .boolean), Cond.methodLink RX6 93 yX6_cell, Cond.static yX6_cell, Cond.code yX6_cell cX6_cell 2 (some .int), Cond.methodLink RX6 96 yX6_findRing, Cond.instanceMethod yX6_findRing, Cond.selects RX6 yX6_findRing yX6_findRing, Cond.code yX6_findRing cX6_findRing 10 (some .boolean), Cond.fieldLink RX6 20 "HeapMover$Planner" "rowFrom" "[I", Cond.fieldLink RX6 23 "HeapMover$Planner" "columnFrom" "[I", Cond.fieldLink RX6 26 "HeapMover$Planner" "columns" "[I", Cond.methodLink RX6 104 yX6_reachColumns, Cond.instanceMethod yX6_reachColumns, Cond.selects RX6 yX6_reachColumns yX6_reachColumns, Cond.code yX6_reachColumns cX6_reachColumns 7 (some .int)]
def wsX8_height_r8 : List Cond := [Cond.methodLink RX6 100 yX6_turnRing, Cond.instanceMethod yX6_turnRing, Cond.selects RX6 yX6_turnRing yX6_turnRing, Cond.code yX6_turnRing cX6_turnRing 7 none, Cond.methodLink RX6 108 yX6_ringAmount, Cond.instanceMethod yX6_ringAmount, Cond.selects RX6 yX6_ringAmount yX6_ringAmount, Cond.code yX6_ringAmount cX6_ringAmount 7 (some .int)]
def wsX8_height : List Cond := .code yX8_height cX8_height 4 (some .int) :: ((wsX8_height_r1 ++ (wsX8_height_r2 ++ (wsX8_height_r3 ++ (wsX8_height_r4 ++ (wsX8_height_r5 ++ (wsX8_height_r6 ++ (wsX8_height_r7 ++ wsX8_height_r8))))))) ++ wsX80 ++ wsX60 ++ wsX30 ++ wsX20 ++ wsX40 ++ wsX50)
def wsX8_load_r1 : List Cond := [Cond.fieldLink RX8 47 "HeapMover" "planner" "LHeapMover$Planner;", Cond.fieldLink RX8 12 "HeapMover" "land" "LHeapMover$Land;", Cond.methodLink RX8 140 yX8_refusalAtPlaces, Cond.instanceMethod yX8_refusalAtPlaces, Cond.selects RX8 yX8_refusalAtPlaces yX8_refusalAtPlaces, Cond.initialized RX8, Cond.code yX8_refusalAtPlaces cX8_refusalAtPlaces 5 (some .int), Cond.methodLink RX8 85 yX3_has, Cond.instanceMethod yX3_has, Cond.selects RX3 yX3_has yX3_has, Cond.initialized RX3, Cond.code yX3_has cX3_has 2 (some .boolean), Cond.fieldLink RX3 32 "HeapMover$Land" "places" "I", Cond.methodLink RX8 134 yX8_refusalOfMoving, Cond.instanceMethod yX8_refusalOfMoving, Cond.selects RX8 yX8_refusalOfMoving yX8_refusalOfMoving, Cond.code yX8_refusalOfMoving cX8_refusalOfMoving 3 (some .int), Cond.fieldLink RX8 19 "HeapMover" "heaps" "LHeapMover$Heaps;", Cond.methodLink RX8 99 yX2_has, Cond.instanceMethod yX2_has, Cond.selects RX2 yX2_has yX2_has, Cond.initialized RX2, Cond.code yX2_has cX2_has 2 (some .boolean), Cond.fieldLink RX2 16 "HeapMover$Heaps" "made" "I"]
def wsX8_load_r2 : List Cond := [Cond.methodLink RX8 177 yX3_isJoined, Cond.instanceMethod yX3_isJoined, Cond.selects RX3 yX3_isJoined yX3_isJoined, Cond.code yX3_isJoined cX3_isJoined 2 (some .boolean), Cond.fieldLink RX3 29 "HeapMover$Land" "distances" "[[I", Cond.constant RX3 42 (1000000), Cond.methodLink RX8 130 yX2_total, Cond.instanceMethod yX2_total, Cond.selects RX2 yX2_total yX2_total, Cond.code yX2_total cX2_total 4 (some .int), Cond.fieldLink RX2 11 "HeapMover$Heaps" "amounts" "[[I", Cond.methodLink RX8 144 yX8_makePlan, Cond.instanceMethod yX8_makePlan, Cond.selects RX8 yX8_makePlan yX8_makePlan, Cond.code yX8_makePlan cX8_makePlan 3 none, Cond.fieldLink RX8 58 "HeapMover" "plannedFrom" "I", Cond.fieldLink RX8 62 "HeapMover" "plannedTo" "I", Cond.fieldLink RX8 40 "HeapMover" "mover" "LHeapMover$Mover;", Cond.fieldLink RX8 100 "HeapMover$Heaps" "amounts" "[[I", Cond.methodLink RX8 212 yX6_make, Cond.instanceMethod yX6_make, Cond.selects RX6 yX6_make yX6_make, Cond.initialized RX6, Cond.code yX6_make cX6_make 6 none]
def wsX8_load_r3 : List Cond := [Cond.fieldLink RX6 35 "HeapMover$Land" "places" "I", Cond.fieldLink RX6 41 "HeapMover$Mover" "network" "LHeapMover$Network;", Cond.methodLink RX6 29 yX4_cheapest, Cond.instanceMethod yX4_cheapest, Cond.selects RX4 yX4_cheapest yX4_cheapest, Cond.initialized RX4, Cond.code yX4_cheapest cX4_cheapest 7 (some .int), Cond.fieldLink RX4 12 "HeapMover$Mover" "network" "LHeapMover$Network;", Cond.fieldLink RX4 21 "HeapMover$Land" "places" "I", Cond.constant RX4 31 (1000000), Cond.fieldLink RX4 32 "HeapMover$Land" "distances" "[[I", Cond.fieldLink RX4 51 "HeapMover$Network" "spent" "I", Cond.methodLink RX4 18 yX5_empty, Cond.instanceMethod yX5_empty, Cond.selects RX5 yX5_empty yX5_empty, Cond.initialized RX5, Cond.code yX5_empty cX5_empty 1 none, Cond.fieldLink RX5 30 "HeapMover$Network" "arcs" "I", Cond.fieldLink RX5 34 "HeapMover$Network" "moved" "I", Cond.fieldLink RX5 37 "HeapMover$Network" "spent" "I", Cond.methodLink RX4 27 yX4_joinSource, Cond.instanceMethod yX4_joinSource, Cond.selects RX4 yX4_joinSource yX4_joinSource, Cond.code yX4_joinSource cX4_joinSource 6 (some .int)]
def wsX8_load_r4 : List Cond := [Cond.methodLink RX4 36 yX5_join, Cond.instanceMethod yX5_join, Cond.selects RX5 yX5_join yX5_join, Cond.code yX5_join cX5_join 5 none, Cond.methodLink RX5 40 yX5_addArc, Cond.instanceMethod yX5_addArc, Cond.selects RX5 yX5_addArc yX5_addArc, Cond.code yX5_addArc cX5_addArc 5 none, Cond.fieldLink RX5 9 "HeapMover$Network" "tails" "[I", Cond.fieldLink RX5 15 "HeapMover$Network" "heads" "[I", Cond.fieldLink RX5 18 "HeapMover$Network" "rooms" "[I", Cond.fieldLink RX5 21 "HeapMover$Network" "prices" "[I", Cond.methodLink RX4 40 yX4_joinSink, Cond.instanceMethod yX4_joinSink, Cond.selects RX4 yX4_joinSink yX4_joinSink, Cond.code yX4_joinSink cX4_joinSink 5 none, Cond.methodLink RX4 44 yX4_staying, Cond.static yX4_staying, Cond.code yX4_staying cX4_staying 5 (some .int), Cond.methodLink RX4 64 Lib.Math.min.name, Cond.static Lib.Math.min.name, Cond.initialized "java/lang/Math", Cond.code Lib.Math.min.name Lib.Math.min.code 2 (some .int), Cond.methodLink RX4 47 yX5_push]
def wsX8_load_r5 : List Cond := [Cond.instanceMethod yX5_push, Cond.selects RX5 yX5_push yX5_push, Cond.code yX5_push cX5_push 3 none, Cond.methodLink RX5 44 yX5_search, Cond.instanceMethod yX5_search, Cond.selects RX5 yX5_search yX5_search, Cond.code yX5_search cX5_search 2 (some .boolean), Cond.fieldLink RX5 24 "HeapMover$Network" "costs" "[I", Cond.constant RX5 52 (1000000), Cond.fieldLink RX5 27 "HeapMover$Network" "lastArcs" "[I", Cond.methodLink RX5 53 yJ7_fill_53178, Cond.static yJ7_fill_53178, Cond.initialized RJ7, Cond.code yJ7_fill_53178 cJ7_fill_53178 4 none, Cond.methodLink RX5 59 yX5_relax, Cond.instanceMethod yX5_relax, Cond.selects RX5 yX5_relax yX5_relax, Cond.code yX5_relax cX5_relax 4 (some .boolean), Cond.methodLink RX5 62 yX5_isReached, Cond.instanceMethod yX5_isReached, Cond.selects RX5 yX5_isReached yX5_isReached, Cond.code yX5_isReached cX5_isReached 2 (some .boolean), Cond.methodLink RX5 48 yX5_carry, Cond.instanceMethod yX5_carry]
def wsX8_load_r6 : List Cond := [Cond.selects RX5 yX5_carry yX5_carry, Cond.code yX5_carry cX5_carry 5 none, Cond.methodLink RX5 66 Lib.Math.min.name, Cond.methodLink RX6 45 yX6_takeGoods, Cond.instanceMethod yX6_takeGoods, Cond.selects RX6 yX6_takeGoods yX6_takeGoods, Cond.code yX6_takeGoods cX6_takeGoods 8 none, Cond.fieldLink RX6 11 "HeapMover$Planner" "goods" "[[I", Cond.methodLink RX6 65 Lib.Math.min.name, Cond.fieldLink RX6 71 "HeapMover$Network" "arcs" "I", Cond.fieldLink RX6 76 "HeapMover$Network" "tails" "[I", Cond.fieldLink RX6 79 "HeapMover$Network" "heads" "[I", Cond.fieldLink RX6 82 "HeapMover$Network" "rooms" "[I", Cond.methodLink RX6 59 yJ7_fill_53178, Cond.methodLink RX6 49 yX6_raiseHeights, Cond.instanceMethod yX6_raiseHeights, Cond.selects RX6 yX6_raiseHeights yX6_raiseHeights, Cond.code yX6_raiseHeights cX6_raiseHeights 3 none, Cond.fieldLink RX6 16 "HeapMover$Planner" "heights" "[I", Cond.fieldLink RX6 56 "HeapMover$Land" "distances" "[[I", Cond.methodLink RX6 85 yX6_lowerHeights, Cond.instanceMethod yX6_lowerHeights, Cond.selects RX6 yX6_lowerHeights yX6_lowerHeights, Cond.code yX6_lowerHeights cX6_lowerHeights 6 (some .boolean)]
def wsX8_load_r7 : List Cond := [Cond.methodLink RX6 53 yX6_putFirst, Cond.instanceMethod yX6_putFirst, Cond.selects RX6 yX6_putFirst yX6_putFirst, Cond.code yX6_putFirst cX6_putFirst 6 none, Cond.methodLink RX6 89 yX6_isTight, Cond.instanceMethod yX6_isTight, Cond.selects RX6 yX6_isTight yX6_isTight, Cond.code yX6_isTight cX6_isTight 4 (some .boolean), Cond.methodLink RX6 93 yX6_cell, Cond.static yX6_cell, Cond.code yX6_cell cX6_cell 2 (some .int), Cond.methodLink RX6 96 yX6_findRing, Cond.instanceMethod yX6_findRing, Cond.selects RX6 yX6_findRing yX6_findRing, Cond.code yX6_findRing cX6_findRing 10 (some .boolean), Cond.fieldLink RX6 20 "HeapMover$Planner" "rowFrom" "[I", Cond.fieldLink RX6 23 "HeapMover$Planner" "columnFrom" "[I", Cond.fieldLink RX6 26 "HeapMover$Planner" "columns" "[I", Cond.methodLink RX6 104 yX6_reachColumns, Cond.instanceMethod yX6_reachColumns, Cond.selects RX6 yX6_reachColumns yX6_reachColumns, Cond.code yX6_reachColumns cX6_reachColumns 7 (some .int), Cond.methodLink RX6 100 yX6_turnRing, Cond.instanceMethod yX6_turnRing]
def wsX8_load_r8 : List Cond := [Cond.selects RX6 yX6_turnRing yX6_turnRing, Cond.code yX6_turnRing cX6_turnRing 7 none, Cond.methodLink RX6 108 yX6_ringAmount, Cond.instanceMethod yX6_ringAmount, Cond.selects RX6 yX6_ringAmount yX6_ringAmount, Cond.code yX6_ringAmount cX6_ringAmount 7 (some .int), Cond.methodLink RX8 159 yX6_carried, Cond.instanceMethod yX6_carried, Cond.selects RX6 yX6_carried yX6_carried, Cond.code yX6_carried cX6_carried 7 (some .int), Cond.methodLink RX6 111 yX3_placeBehind, Cond.instanceMethod yX3_placeBehind, Cond.selects RX3 yX3_placeBehind yX3_placeBehind, Cond.code yX3_placeBehind cX3_placeBehind 4 (some .int), Cond.fieldLink RX3 26 "HeapMover$Land" "directs" "[[I", Cond.methodLink RX6 114 yX6_passes, Cond.static yX6_passes, Cond.code yX6_passes cX6_passes 6 (some .boolean)]
def wsX8_load : List Cond := .code yX8_load cX8_load 6 (some .int) :: ((wsX8_load_r1 ++ (wsX8_load_r2 ++ (wsX8_load_r3 ++ (wsX8_load_r4 ++ (wsX8_load_r5 ++ (wsX8_load_r6 ++ (wsX8_load_r7 ++ wsX8_load_r8))))))) ++ wsX80 ++ wsX30 ++ wsX20 ++ wsX40 ++ wsX50 ++ wsX60)
def wsX8_makeReach_r1 : List Cond := [Cond.fieldLink RX8 65 "HeapMover" "reachedFrom" "I", Cond.fieldLink RX8 68 "HeapMover" "reachedTo" "I", Cond.fieldLink RX8 54 "HeapMover" "reach" "LHeapMover$Reach;", Cond.fieldLink RX8 12 "HeapMover" "land" "LHeapMover$Land;", Cond.fieldLink RX8 19 "HeapMover" "heaps" "LHeapMover$Heaps;", Cond.fieldLink RX8 100 "HeapMover$Heaps" "amounts" "[[I", Cond.methodLink RX8 130 yX2_total, Cond.instanceMethod yX2_total, Cond.selects RX2 yX2_total yX2_total, Cond.initialized RX2, Cond.code yX2_total cX2_total 4 (some .int), Cond.fieldLink RX2 11 "HeapMover$Heaps" "amounts" "[[I", Cond.methodLink RX8 216 yX7_make, Cond.instanceMethod yX7_make, Cond.selects RX7 yX7_make yX7_make, Cond.initialized RX7, Cond.code yX7_make cX7_make 6 none, Cond.fieldLink RX7 22 "HeapMover$Land" "places" "I", Cond.fieldLink RX7 9 "HeapMover$Reach" "stuck" "[I", Cond.fieldLink RX7 38 "HeapMover$Reach" "farthest" "I", Cond.fieldLink RX7 18 "HeapMover$Reach" "network" "LHeapMover$Network;", Cond.fieldLink RX7 49 "HeapMover$Network" "moved" "I", Cond.methodLink RX7 28 yX7_joinEnds, Cond.instanceMethod yX7_joinEnds]
def wsX8_makeReach_r2 : List Cond := [Cond.selects RX7 yX7_joinEnds yX7_joinEnds, Cond.code yX7_joinEnds cX7_joinEnds 5 none, Cond.methodLink RX7 59 yX5_empty, Cond.instanceMethod yX5_empty, Cond.selects RX5 yX5_empty yX5_empty, Cond.initialized RX5, Cond.code yX5_empty cX5_empty 1 none, Cond.fieldLink RX5 30 "HeapMover$Network" "arcs" "I", Cond.fieldLink RX5 34 "HeapMover$Network" "moved" "I", Cond.fieldLink RX5 37 "HeapMover$Network" "spent" "I", Cond.methodLink RX7 62 yX5_join, Cond.instanceMethod yX5_join, Cond.selects RX5 yX5_join yX5_join, Cond.code yX5_join cX5_join 5 none, Cond.methodLink RX5 40 yX5_addArc, Cond.instanceMethod yX5_addArc, Cond.selects RX5 yX5_addArc yX5_addArc, Cond.code yX5_addArc cX5_addArc 5 none, Cond.fieldLink RX5 9 "HeapMover$Network" "tails" "[I", Cond.fieldLink RX5 15 "HeapMover$Network" "heads" "[I", Cond.fieldLink RX5 18 "HeapMover$Network" "rooms" "[I", Cond.fieldLink RX5 21 "HeapMover$Network" "prices" "[I", Cond.methodLink RX7 32 yJ7_fill_53178, Cond.static yJ7_fill_53178]
def wsX8_makeReach_r3 : List Cond := [Cond.initialized RJ7, Cond.code yJ7_fill_53178 cJ7_fill_53178 4 none, Cond.methodLink RX7 41 yX7_joinDistance, Cond.instanceMethod yX7_joinDistance, Cond.selects RX7 yX7_joinDistance yX7_joinDistance, Cond.code yX7_joinDistance cX7_joinDistance 6 none, Cond.fieldLink RX7 66 "HeapMover$Land" "distances" "[[I", Cond.constant RX7 70 (1000000), Cond.methodLink RX7 45 yX5_push, Cond.instanceMethod yX5_push, Cond.selects RX5 yX5_push yX5_push, Cond.code yX5_push cX5_push 3 none, Cond.methodLink RX5 44 yX5_search, Cond.instanceMethod yX5_search, Cond.selects RX5 yX5_search yX5_search, Cond.code yX5_search cX5_search 2 (some .boolean), Cond.fieldLink RX5 24 "HeapMover$Network" "costs" "[I", Cond.constant RX5 52 (1000000), Cond.fieldLink RX5 27 "HeapMover$Network" "lastArcs" "[I", Cond.methodLink RX5 53 yJ7_fill_53178, Cond.methodLink RX5 59 yX5_relax, Cond.instanceMethod yX5_relax, Cond.selects RX5 yX5_relax yX5_relax, Cond.code yX5_relax cX5_relax 4 (some .boolean)]
def wsX8_makeReach_r4 : List Cond := [Cond.methodLink RX5 62 yX5_isReached, Cond.instanceMethod yX5_isReached, Cond.selects RX5 yX5_isReached yX5_isReached, Cond.code yX5_isReached cX5_isReached 2 (some .boolean), Cond.methodLink RX5 48 yX5_carry, Cond.instanceMethod yX5_carry, Cond.selects RX5 yX5_carry yX5_carry, Cond.code yX5_carry cX5_carry 5 none, Cond.methodLink RX5 66 Lib.Math.min.name, Cond.static Lib.Math.min.name, Cond.initialized "java/lang/Math", Cond.code Lib.Math.min.name Lib.Math.min.code 2 (some .int), Cond.methodLink RX7 52 yX7_noteStuck, Cond.instanceMethod yX7_noteStuck, Cond.selects RX7 yX7_noteStuck yX7_noteStuck, Cond.code yX7_noteStuck cX7_noteStuck 3 none, Cond.methodLink RX7 71 yX5_isReached, Cond.methodLink RX7 55 yX7_distanceAbove, Cond.static yX7_distanceAbove, Cond.code yX7_distanceAbove cX7_distanceAbove 5 (some .int), Cond.methodLink RX7 75 Lib.Math.min.name]
def wsX8_makeReach : List Cond := .code yX8_makeReach cX8_makeReach 3 none :: ((wsX8_makeReach_r1 ++ (wsX8_makeReach_r2 ++ (wsX8_makeReach_r3 ++ wsX8_makeReach_r4))) ++ wsX80 ++ wsX20 ++ wsX30 ++ wsX70 ++ wsX50)
def wsX8_far_r1 : List Cond := [Cond.fieldLink RX8 54 "HeapMover" "reach" "LHeapMover$Reach;", Cond.fieldLink RX8 166 "HeapMover$Reach" "farthest" "I", Cond.methodLink RX8 134 yX8_refusalOfMoving, Cond.instanceMethod yX8_refusalOfMoving, Cond.selects RX8 yX8_refusalOfMoving yX8_refusalOfMoving, Cond.initialized RX8, Cond.code yX8_refusalOfMoving cX8_refusalOfMoving 3 (some .int), Cond.fieldLink RX8 19 "HeapMover" "heaps" "LHeapMover$Heaps;", Cond.fieldLink RX8 12 "HeapMover" "land" "LHeapMover$Land;", Cond.methodLink RX8 99 yX2_has, Cond.instanceMethod yX2_has, Cond.selects RX2 yX2_has yX2_has, Cond.initialized RX2, Cond.code yX2_has cX2_has 2 (some .boolean), Cond.fieldLink RX2 16 "HeapMover$Heaps" "made" "I", Cond.methodLink RX8 177 yX3_isJoined, Cond.instanceMethod yX3_isJoined, Cond.selects RX3 yX3_isJoined yX3_isJoined, Cond.initialized RX3, Cond.code yX3_isJoined cX3_isJoined 2 (some .boolean), Cond.fieldLink RX3 32 "HeapMover$Land" "places" "I", Cond.fieldLink RX3 29 "HeapMover$Land" "distances" "[[I", Cond.constant RX3 42 (1000000), Cond.methodLink RX8 130 yX2_total]
def wsX8_far_r2 : List Cond := [Cond.instanceMethod yX2_total, Cond.selects RX2 yX2_total yX2_total, Cond.code yX2_total cX2_total 4 (some .int), Cond.fieldLink RX2 11 "HeapMover$Heaps" "amounts" "[[I", Cond.methodLink RX8 163 yX8_makeReach, Cond.instanceMethod yX8_makeReach, Cond.selects RX8 yX8_makeReach yX8_makeReach, Cond.code yX8_makeReach cX8_makeReach 3 none, Cond.fieldLink RX8 65 "HeapMover" "reachedFrom" "I", Cond.fieldLink RX8 68 "HeapMover" "reachedTo" "I", Cond.fieldLink RX8 100 "HeapMover$Heaps" "amounts" "[[I", Cond.methodLink RX8 216 yX7_make, Cond.instanceMethod yX7_make, Cond.selects RX7 yX7_make yX7_make, Cond.initialized RX7, Cond.code yX7_make cX7_make 6 none, Cond.fieldLink RX7 22 "HeapMover$Land" "places" "I", Cond.fieldLink RX7 9 "HeapMover$Reach" "stuck" "[I", Cond.fieldLink RX7 38 "HeapMover$Reach" "farthest" "I", Cond.fieldLink RX7 18 "HeapMover$Reach" "network" "LHeapMover$Network;", Cond.fieldLink RX7 49 "HeapMover$Network" "moved" "I", Cond.methodLink RX7 28 yX7_joinEnds, Cond.instanceMethod yX7_joinEnds, Cond.selects RX7 yX7_joinEnds yX7_joinEnds]
def wsX8_far_r3 : List Cond := [Cond.code yX7_joinEnds cX7_joinEnds 5 none, Cond.methodLink RX7 59 yX5_empty, Cond.instanceMethod yX5_empty, Cond.selects RX5 yX5_empty yX5_empty, Cond.initialized RX5, Cond.code yX5_empty cX5_empty 1 none, Cond.fieldLink RX5 30 "HeapMover$Network" "arcs" "I", Cond.fieldLink RX5 34 "HeapMover$Network" "moved" "I", Cond.fieldLink RX5 37 "HeapMover$Network" "spent" "I", Cond.methodLink RX7 62 yX5_join, Cond.instanceMethod yX5_join, Cond.selects RX5 yX5_join yX5_join, Cond.code yX5_join cX5_join 5 none, Cond.methodLink RX5 40 yX5_addArc, Cond.instanceMethod yX5_addArc, Cond.selects RX5 yX5_addArc yX5_addArc, Cond.code yX5_addArc cX5_addArc 5 none, Cond.fieldLink RX5 9 "HeapMover$Network" "tails" "[I", Cond.fieldLink RX5 15 "HeapMover$Network" "heads" "[I", Cond.fieldLink RX5 18 "HeapMover$Network" "rooms" "[I", Cond.fieldLink RX5 21 "HeapMover$Network" "prices" "[I", Cond.methodLink RX7 32 yJ7_fill_53178, Cond.static yJ7_fill_53178, Cond.initialized RJ7]
def wsX8_far_r4 : List Cond := [Cond.code yJ7_fill_53178 cJ7_fill_53178 4 none, Cond.methodLink RX7 41 yX7_joinDistance, Cond.instanceMethod yX7_joinDistance, Cond.selects RX7 yX7_joinDistance yX7_joinDistance, Cond.code yX7_joinDistance cX7_joinDistance 6 none, Cond.fieldLink RX7 66 "HeapMover$Land" "distances" "[[I", Cond.constant RX7 70 (1000000), Cond.methodLink RX7 45 yX5_push, Cond.instanceMethod yX5_push, Cond.selects RX5 yX5_push yX5_push, Cond.code yX5_push cX5_push 3 none, Cond.methodLink RX5 44 yX5_search, Cond.instanceMethod yX5_search, Cond.selects RX5 yX5_search yX5_search, Cond.code yX5_search cX5_search 2 (some .boolean), Cond.fieldLink RX5 24 "HeapMover$Network" "costs" "[I", Cond.constant RX5 52 (1000000), Cond.fieldLink RX5 27 "HeapMover$Network" "lastArcs" "[I", Cond.methodLink RX5 53 yJ7_fill_53178, Cond.methodLink RX5 59 yX5_relax, Cond.instanceMethod yX5_relax, Cond.selects RX5 yX5_relax yX5_relax, Cond.code yX5_relax cX5_relax 4 (some .boolean), Cond.methodLink RX5 62 yX5_isReached]
def wsX8_far_r5 : List Cond := [Cond.instanceMethod yX5_isReached, Cond.selects RX5 yX5_isReached yX5_isReached, Cond.code yX5_isReached cX5_isReached 2 (some .boolean), Cond.methodLink RX5 48 yX5_carry, Cond.instanceMethod yX5_carry, Cond.selects RX5 yX5_carry yX5_carry, Cond.code yX5_carry cX5_carry 5 none, Cond.methodLink RX5 66 Lib.Math.min.name, Cond.static Lib.Math.min.name, Cond.initialized "java/lang/Math", Cond.code Lib.Math.min.name Lib.Math.min.code 2 (some .int), Cond.methodLink RX7 52 yX7_noteStuck, Cond.instanceMethod yX7_noteStuck, Cond.selects RX7 yX7_noteStuck yX7_noteStuck, Cond.code yX7_noteStuck cX7_noteStuck 3 none, Cond.methodLink RX7 71 yX5_isReached, Cond.methodLink RX7 55 yX7_distanceAbove, Cond.static yX7_distanceAbove, Cond.code yX7_distanceAbove cX7_distanceAbove 5 (some .int), Cond.methodLink RX7 75 Lib.Math.min.name]
def wsX8_far : List Cond := .code yX8_far cX8_far 4 (some .int) :: ((wsX8_far_r1 ++ (wsX8_far_r2 ++ (wsX8_far_r3 ++ (wsX8_far_r4 ++ wsX8_far_r5)))) ++ wsX80 ++ wsX70 ++ wsX20 ++ wsX30 ++ wsX50)
def wsX8_shown_r1 : List Cond := [Cond.fieldLink RX8 54 "HeapMover" "reach" "LHeapMover$Reach;", Cond.fieldLink RX8 169 "HeapMover$Reach" "stuck" "[I", Cond.methodLink RX8 140 yX8_refusalAtPlaces, Cond.instanceMethod yX8_refusalAtPlaces, Cond.selects RX8 yX8_refusalAtPlaces yX8_refusalAtPlaces, Cond.initialized RX8, Cond.code yX8_refusalAtPlaces cX8_refusalAtPlaces 5 (some .int), Cond.fieldLink RX8 12 "HeapMover" "land" "LHeapMover$Land;", Cond.methodLink RX8 85 yX3_has, Cond.instanceMethod yX3_has, Cond.selects RX3 yX3_has yX3_has, Cond.initialized RX3, Cond.code yX3_has cX3_has 2 (some .boolean), Cond.fieldLink RX3 32 "HeapMover$Land" "places" "I", Cond.methodLink RX8 134 yX8_refusalOfMoving, Cond.instanceMethod yX8_refusalOfMoving, Cond.selects RX8 yX8_refusalOfMoving yX8_refusalOfMoving, Cond.code yX8_refusalOfMoving cX8_refusalOfMoving 3 (some .int), Cond.fieldLink RX8 19 "HeapMover" "heaps" "LHeapMover$Heaps;", Cond.methodLink RX8 99 yX2_has, Cond.instanceMethod yX2_has, Cond.selects RX2 yX2_has yX2_has, Cond.initialized RX2, Cond.code yX2_has cX2_has 2 (some .boolean)]
def wsX8_shown_r2 : List Cond := [Cond.fieldLink RX2 16 "HeapMover$Heaps" "made" "I", Cond.methodLink RX8 177 yX3_isJoined, Cond.instanceMethod yX3_isJoined, Cond.selects RX3 yX3_isJoined yX3_isJoined, Cond.code yX3_isJoined cX3_isJoined 2 (some .boolean), Cond.fieldLink RX3 29 "HeapMover$Land" "distances" "[[I", Cond.constant RX3 42 (1000000), Cond.methodLink RX8 130 yX2_total, Cond.instanceMethod yX2_total, Cond.selects RX2 yX2_total yX2_total, Cond.code yX2_total cX2_total 4 (some .int), Cond.fieldLink RX2 11 "HeapMover$Heaps" "amounts" "[[I", Cond.methodLink RX8 163 yX8_makeReach, Cond.instanceMethod yX8_makeReach, Cond.selects RX8 yX8_makeReach yX8_makeReach, Cond.code yX8_makeReach cX8_makeReach 3 none, Cond.fieldLink RX8 65 "HeapMover" "reachedFrom" "I", Cond.fieldLink RX8 68 "HeapMover" "reachedTo" "I", Cond.fieldLink RX8 100 "HeapMover$Heaps" "amounts" "[[I", Cond.methodLink RX8 216 yX7_make, Cond.instanceMethod yX7_make, Cond.selects RX7 yX7_make yX7_make, Cond.initialized RX7, Cond.code yX7_make cX7_make 6 none]
def wsX8_shown_r3 : List Cond := [Cond.fieldLink RX7 22 "HeapMover$Land" "places" "I", Cond.fieldLink RX7 9 "HeapMover$Reach" "stuck" "[I", Cond.fieldLink RX7 38 "HeapMover$Reach" "farthest" "I", Cond.fieldLink RX7 18 "HeapMover$Reach" "network" "LHeapMover$Network;", Cond.fieldLink RX7 49 "HeapMover$Network" "moved" "I", Cond.methodLink RX7 28 yX7_joinEnds, Cond.instanceMethod yX7_joinEnds, Cond.selects RX7 yX7_joinEnds yX7_joinEnds, Cond.code yX7_joinEnds cX7_joinEnds 5 none, Cond.methodLink RX7 59 yX5_empty, Cond.instanceMethod yX5_empty, Cond.selects RX5 yX5_empty yX5_empty, Cond.initialized RX5, Cond.code yX5_empty cX5_empty 1 none, Cond.fieldLink RX5 30 "HeapMover$Network" "arcs" "I", Cond.fieldLink RX5 34 "HeapMover$Network" "moved" "I", Cond.fieldLink RX5 37 "HeapMover$Network" "spent" "I", Cond.methodLink RX7 62 yX5_join, Cond.instanceMethod yX5_join, Cond.selects RX5 yX5_join yX5_join, Cond.code yX5_join cX5_join 5 none, Cond.methodLink RX5 40 yX5_addArc, Cond.instanceMethod yX5_addArc, Cond.selects RX5 yX5_addArc yX5_addArc]
def wsX8_shown_r4 : List Cond := [Cond.code yX5_addArc cX5_addArc 5 none, Cond.fieldLink RX5 9 "HeapMover$Network" "tails" "[I", Cond.fieldLink RX5 15 "HeapMover$Network" "heads" "[I", Cond.fieldLink RX5 18 "HeapMover$Network" "rooms" "[I", Cond.fieldLink RX5 21 "HeapMover$Network" "prices" "[I", Cond.methodLink RX7 32 yJ7_fill_53178, Cond.static yJ7_fill_53178, Cond.initialized RJ7, Cond.code yJ7_fill_53178 cJ7_fill_53178 4 none, Cond.methodLink RX7 41 yX7_joinDistance, Cond.instanceMethod yX7_joinDistance, Cond.selects RX7 yX7_joinDistance yX7_joinDistance, Cond.code yX7_joinDistance cX7_joinDistance 6 none, Cond.fieldLink RX7 66 "HeapMover$Land" "distances" "[[I", Cond.constant RX7 70 (1000000), Cond.methodLink RX7 45 yX5_push, Cond.instanceMethod yX5_push, Cond.selects RX5 yX5_push yX5_push, Cond.code yX5_push cX5_push 3 none, Cond.methodLink RX5 44 yX5_search, Cond.instanceMethod yX5_search, Cond.selects RX5 yX5_search yX5_search, Cond.code yX5_search cX5_search 2 (some .boolean), Cond.fieldLink RX5 24 "HeapMover$Network" "costs" "[I"]
def wsX8_shown_r5 : List Cond := [Cond.constant RX5 52 (1000000), Cond.fieldLink RX5 27 "HeapMover$Network" "lastArcs" "[I", Cond.methodLink RX5 53 yJ7_fill_53178, Cond.methodLink RX5 59 yX5_relax, Cond.instanceMethod yX5_relax, Cond.selects RX5 yX5_relax yX5_relax, Cond.code yX5_relax cX5_relax 4 (some .boolean), Cond.methodLink RX5 62 yX5_isReached, Cond.instanceMethod yX5_isReached, Cond.selects RX5 yX5_isReached yX5_isReached, Cond.code yX5_isReached cX5_isReached 2 (some .boolean), Cond.methodLink RX5 48 yX5_carry, Cond.instanceMethod yX5_carry, Cond.selects RX5 yX5_carry yX5_carry, Cond.code yX5_carry cX5_carry 5 none, Cond.methodLink RX5 66 Lib.Math.min.name, Cond.static Lib.Math.min.name, Cond.initialized "java/lang/Math", Cond.code Lib.Math.min.name Lib.Math.min.code 2 (some .int), Cond.methodLink RX7 52 yX7_noteStuck, Cond.instanceMethod yX7_noteStuck, Cond.selects RX7 yX7_noteStuck yX7_noteStuck, Cond.code yX7_noteStuck cX7_noteStuck 3 none, Cond.methodLink RX7 71 yX5_isReached]
def wsX8_shown_r6 : List Cond := [Cond.methodLink RX7 55 yX7_distanceAbove, Cond.static yX7_distanceAbove, Cond.code yX7_distanceAbove cX7_distanceAbove 5 (some .int), Cond.methodLink RX7 75 Lib.Math.min.name]
def wsX8_shown : List Cond := .code yX8_shown cX8_shown 5 (some .int) :: ((wsX8_shown_r1 ++ (wsX8_shown_r2 ++ (wsX8_shown_r3 ++ (wsX8_shown_r4 ++ (wsX8_shown_r5 ++ wsX8_shown_r6))))) ++ wsX80 ++ wsX70 ++ wsX30 ++ wsX20 ++ wsX50)
def wsX8_some_r1 : List Cond := [Cond.fieldLink RX8 19 "HeapMover" "heaps" "LHeapMover$Heaps;", Cond.methodLink RX8 172 Lib.Math.min.name, Cond.static Lib.Math.min.name, Cond.initialized "java/lang/Math", Cond.code Lib.Math.min.name Lib.Math.min.code 2 (some .int), Cond.fieldLink RX8 12 "HeapMover" "land" "LHeapMover$Land;", Cond.fieldLink RX8 40 "HeapMover" "mover" "LHeapMover$Mover;", Cond.fieldLink RX8 100 "HeapMover$Heaps" "amounts" "[[I", Cond.methodLink RX8 99 yX2_has, Cond.instanceMethod yX2_has, Cond.selects RX2 yX2_has yX2_has, Cond.initialized RX2, Cond.code yX2_has cX2_has 2 (some .boolean), Cond.fieldLink RX2 16 "HeapMover$Heaps" "made" "I", Cond.methodLink RX8 130 yX2_total, Cond.instanceMethod yX2_total, Cond.selects RX2 yX2_total yX2_total, Cond.code yX2_total cX2_total 4 (some .int), Cond.fieldLink RX2 11 "HeapMover$Heaps" "amounts" "[[I", Cond.methodLink RX8 177 yX3_isJoined, Cond.instanceMethod yX3_isJoined, Cond.selects RX3 yX3_isJoined yX3_isJoined, Cond.initialized RX3, Cond.code yX3_isJoined cX3_isJoined 2 (some .boolean)]
def wsX8_some_r2 : List Cond := [Cond.fieldLink RX3 32 "HeapMover$Land" "places" "I", Cond.fieldLink RX3 29 "HeapMover$Land" "distances" "[[I", Cond.constant RX3 42 (1000000), Cond.methodLink RX8 181 yX4_cheapest, Cond.instanceMethod yX4_cheapest, Cond.selects RX4 yX4_cheapest yX4_cheapest, Cond.initialized RX4, Cond.code yX4_cheapest cX4_cheapest 7 (some .int), Cond.fieldLink RX4 12 "HeapMover$Mover" "network" "LHeapMover$Network;", Cond.fieldLink RX4 21 "HeapMover$Land" "places" "I", Cond.constant RX4 31 (1000000), Cond.fieldLink RX4 32 "HeapMover$Land" "distances" "[[I", Cond.fieldLink RX4 51 "HeapMover$Network" "spent" "I", Cond.methodLink RX4 18 yX5_empty, Cond.instanceMethod yX5_empty, Cond.selects RX5 yX5_empty yX5_empty, Cond.initialized RX5, Cond.code yX5_empty cX5_empty 1 none, Cond.fieldLink RX5 30 "HeapMover$Network" "arcs" "I", Cond.fieldLink RX5 34 "HeapMover$Network" "moved" "I", Cond.fieldLink RX5 37 "HeapMover$Network" "spent" "I", Cond.methodLink RX4 27 yX4_joinSource, Cond.instanceMethod yX4_joinSource, Cond.selects RX4 yX4_joinSource yX4_joinSource]
def wsX8_some_r3 : List Cond := [Cond.code yX4_joinSource cX4_joinSource 6 (some .int), Cond.methodLink RX4 36 yX5_join, Cond.instanceMethod yX5_join, Cond.selects RX5 yX5_join yX5_join, Cond.code yX5_join cX5_join 5 none, Cond.methodLink RX5 40 yX5_addArc, Cond.instanceMethod yX5_addArc, Cond.selects RX5 yX5_addArc yX5_addArc, Cond.code yX5_addArc cX5_addArc 5 none, Cond.fieldLink RX5 9 "HeapMover$Network" "tails" "[I", Cond.fieldLink RX5 15 "HeapMover$Network" "heads" "[I", Cond.fieldLink RX5 18 "HeapMover$Network" "rooms" "[I", Cond.fieldLink RX5 21 "HeapMover$Network" "prices" "[I", Cond.methodLink RX4 40 yX4_joinSink, Cond.instanceMethod yX4_joinSink, Cond.selects RX4 yX4_joinSink yX4_joinSink, Cond.code yX4_joinSink cX4_joinSink 5 none, Cond.methodLink RX4 44 yX4_staying, Cond.static yX4_staying, Cond.code yX4_staying cX4_staying 5 (some .int), Cond.methodLink RX4 64 Lib.Math.min.name, Cond.methodLink RX4 47 yX5_push, Cond.instanceMethod yX5_push, Cond.selects RX5 yX5_push yX5_push]
def wsX8_some_r4 : List Cond := [Cond.code yX5_push cX5_push 3 none, Cond.methodLink RX5 44 yX5_search, Cond.instanceMethod yX5_search, Cond.selects RX5 yX5_search yX5_search, Cond.code yX5_search cX5_search 2 (some .boolean), Cond.fieldLink RX5 24 "HeapMover$Network" "costs" "[I", Cond.constant RX5 52 (1000000), Cond.fieldLink RX5 27 "HeapMover$Network" "lastArcs" "[I", Cond.methodLink RX5 53 yJ7_fill_53178, Cond.static yJ7_fill_53178, Cond.initialized RJ7, Cond.code yJ7_fill_53178 cJ7_fill_53178 4 none, Cond.methodLink RX5 59 yX5_relax, Cond.instanceMethod yX5_relax, Cond.selects RX5 yX5_relax yX5_relax, Cond.code yX5_relax cX5_relax 4 (some .boolean), Cond.methodLink RX5 62 yX5_isReached, Cond.instanceMethod yX5_isReached, Cond.selects RX5 yX5_isReached yX5_isReached, Cond.code yX5_isReached cX5_isReached 2 (some .boolean), Cond.methodLink RX5 48 yX5_carry, Cond.instanceMethod yX5_carry, Cond.selects RX5 yX5_carry yX5_carry, Cond.code yX5_carry cX5_carry 5 none]
def wsX8_some_r5 : List Cond := [Cond.methodLink RX5 66 Lib.Math.min.name]
def wsX8_some : List Cond := .code yX8_some cX8_some 4 (some .int) :: ((wsX8_some_r1 ++ (wsX8_some_r2 ++ (wsX8_some_r3 ++ (wsX8_some_r4 ++ wsX8_some_r5)))) ++ wsX80 ++ wsX20 ++ wsX30 ++ wsX40 ++ wsX50)
def wsX8_gated_r1 : List Cond := [Cond.fieldLink RX8 40 "HeapMover" "mover" "LHeapMover$Mover;", Cond.fieldLink RX8 12 "HeapMover" "land" "LHeapMover$Land;", Cond.fieldLink RX8 19 "HeapMover" "heaps" "LHeapMover$Heaps;", Cond.fieldLink RX8 100 "HeapMover$Heaps" "amounts" "[[I", Cond.methodLink RX8 134 yX8_refusalOfMoving, Cond.instanceMethod yX8_refusalOfMoving, Cond.selects RX8 yX8_refusalOfMoving yX8_refusalOfMoving, Cond.initialized RX8, Cond.code yX8_refusalOfMoving cX8_refusalOfMoving 3 (some .int), Cond.methodLink RX8 99 yX2_has, Cond.instanceMethod yX2_has, Cond.selects RX2 yX2_has yX2_has, Cond.initialized RX2, Cond.code yX2_has cX2_has 2 (some .boolean), Cond.fieldLink RX2 16 "HeapMover$Heaps" "made" "I", Cond.methodLink RX8 177 yX3_isJoined, Cond.instanceMethod yX3_isJoined, Cond.selects RX3 yX3_isJoined yX3_isJoined, Cond.initialized RX3, Cond.code yX3_isJoined cX3_isJoined 2 (some .boolean), Cond.fieldLink RX3 32 "HeapMover$Land" "places" "I", Cond.fieldLink RX3 29 "HeapMover$Land" "distances" "[[I", Cond.constant RX3 42 (1000000), Cond.methodLink RX8 130 yX2_total]
def wsX8_gated_r2 : List Cond := [Cond.instanceMethod yX2_total, Cond.selects RX2 yX2_total yX2_total, Cond.code yX2_total cX2_total 4 (some .int), Cond.fieldLink RX2 11 "HeapMover$Heaps" "amounts" "[[I", Cond.methodLink RX8 185 yX4_cheapestThroughGates, Cond.instanceMethod yX4_cheapestThroughGates, Cond.selects RX4 yX4_cheapestThroughGates yX4_cheapestThroughGates, Cond.initialized RX4, Cond.code yX4_cheapestThroughGates cX4_cheapestThroughGates 8 (some .int), Cond.fieldLink RX4 12 "HeapMover$Mover" "network" "LHeapMover$Network;", Cond.fieldLink RX4 21 "HeapMover$Land" "places" "I", Cond.fieldLink RX4 54 "HeapMover$Land" "bounds" "[I", Cond.constant RX4 31 (1000000), Cond.fieldLink RX4 58 "HeapMover$Land" "directs" "[[I", Cond.fieldLink RX4 61 "HeapMover$Network" "moved" "I", Cond.fieldLink RX4 51 "HeapMover$Network" "spent" "I", Cond.methodLink RX4 18 yX5_empty, Cond.instanceMethod yX5_empty, Cond.selects RX5 yX5_empty yX5_empty, Cond.initialized RX5, Cond.code yX5_empty cX5_empty 1 none, Cond.fieldLink RX5 30 "HeapMover$Network" "arcs" "I", Cond.fieldLink RX5 34 "HeapMover$Network" "moved" "I", Cond.fieldLink RX5 37 "HeapMover$Network" "spent" "I"]
def wsX8_gated_r3 : List Cond := [Cond.methodLink RX4 27 yX4_joinSource, Cond.instanceMethod yX4_joinSource, Cond.selects RX4 yX4_joinSource yX4_joinSource, Cond.code yX4_joinSource cX4_joinSource 6 (some .int), Cond.methodLink RX4 36 yX5_join, Cond.instanceMethod yX5_join, Cond.selects RX5 yX5_join yX5_join, Cond.code yX5_join cX5_join 5 none, Cond.methodLink RX5 40 yX5_addArc, Cond.instanceMethod yX5_addArc, Cond.selects RX5 yX5_addArc yX5_addArc, Cond.code yX5_addArc cX5_addArc 5 none, Cond.fieldLink RX5 9 "HeapMover$Network" "tails" "[I", Cond.fieldLink RX5 15 "HeapMover$Network" "heads" "[I", Cond.fieldLink RX5 18 "HeapMover$Network" "rooms" "[I", Cond.fieldLink RX5 21 "HeapMover$Network" "prices" "[I", Cond.methodLink RX4 40 yX4_joinSink, Cond.instanceMethod yX4_joinSink, Cond.selects RX4 yX4_joinSink yX4_joinSink, Cond.code yX4_joinSink cX4_joinSink 5 none, Cond.methodLink RX4 47 yX5_push, Cond.instanceMethod yX5_push, Cond.selects RX5 yX5_push yX5_push, Cond.code yX5_push cX5_push 3 none]
def wsX8_gated_r4 : List Cond := [Cond.methodLink RX5 44 yX5_search, Cond.instanceMethod yX5_search, Cond.selects RX5 yX5_search yX5_search, Cond.code yX5_search cX5_search 2 (some .boolean), Cond.fieldLink RX5 24 "HeapMover$Network" "costs" "[I", Cond.constant RX5 52 (1000000), Cond.fieldLink RX5 27 "HeapMover$Network" "lastArcs" "[I", Cond.methodLink RX5 53 yJ7_fill_53178, Cond.static yJ7_fill_53178, Cond.initialized RJ7, Cond.code yJ7_fill_53178 cJ7_fill_53178 4 none, Cond.methodLink RX5 59 yX5_relax, Cond.instanceMethod yX5_relax, Cond.selects RX5 yX5_relax yX5_relax, Cond.code yX5_relax cX5_relax 4 (some .boolean), Cond.methodLink RX5 62 yX5_isReached, Cond.instanceMethod yX5_isReached, Cond.selects RX5 yX5_isReached yX5_isReached, Cond.code yX5_isReached cX5_isReached 2 (some .boolean), Cond.methodLink RX5 48 yX5_carry, Cond.instanceMethod yX5_carry, Cond.selects RX5 yX5_carry yX5_carry, Cond.code yX5_carry cX5_carry 5 none, Cond.methodLink RX5 66 Lib.Math.min.name]
def wsX8_gated_r5 : List Cond := [Cond.static Lib.Math.min.name, Cond.initialized "java/lang/Math", Cond.code Lib.Math.min.name Lib.Math.min.code 2 (some .int)]
def wsX8_gated : List Cond := .code yX8_gated cX8_gated 4 (some .int) :: ((wsX8_gated_r1 ++ (wsX8_gated_r2 ++ (wsX8_gated_r3 ++ (wsX8_gated_r4 ++ wsX8_gated_r5)))) ++ wsX80 ++ wsX20 ++ wsX30 ++ wsX40 ++ wsX50)
def wsX8_draft : List Cond := .code yX8_draft cX8_draft 5 (some .int) :: ([.fieldLink RX8 12 "HeapMover" "land" "LHeapMover$Land;", .fieldLink RX8 33 "HeapMover" "drafted" "LHeapMover$Draft;", .fieldLink RX8 189 "HeapMover$Draft" "numbers" "[[I", .methodLink RX8 85 yX3_has, .instanceMethod yX3_has, .selects RX3 yX3_has yX3_has, .initialized RX3, .code yX3_has cX3_has 2 (some .boolean), .fieldLink RX3 32 "HeapMover$Land" "places" "I"] ++ wsX80 ++ wsX10 ++ wsX30)
def wsX8_clear : List Cond := .code yX8_clear cX8_clear 2 (some .int) :: ([.fieldLink RX8 33 "HeapMover" "drafted" "LHeapMover$Draft;", .methodLink RX8 192 yX1_others, .instanceMethod yX1_others, .selects RX1 yX1_others yX1_others, .initialized RX1, .code yX1_others cX1_others 4 (some .int), .fieldLink RX1 11 "HeapMover$Draft" "numbers" "[[I", .methodLink RX8 195 yX1_wipe, .instanceMethod yX1_wipe, .selects RX1 yX1_wipe yX1_wipe, .code yX1_wipe cX1_wipe 2 none, .methodLink RX1 16 yJ7_fill_53178, .static yJ7_fill_53178, .initialized RJ7, .code yJ7_fill_53178 cJ7_fill_53178 4 none] ++ wsX80 ++ wsX10)
def wsX8_copy_r1 : List Cond := [Cond.fieldLink RX8 12 "HeapMover" "land" "LHeapMover$Land;", Cond.fieldLink RX8 74 "HeapMover$Land" "places" "I", Cond.fieldLink RX8 33 "HeapMover" "drafted" "LHeapMover$Draft;", Cond.fieldLink RX8 189 "HeapMover$Draft" "numbers" "[[I", Cond.fieldLink RX8 47 "HeapMover" "planner" "LHeapMover$Planner;", Cond.fieldLink RX8 148 "HeapMover$Planner" "goods" "[[I", Cond.methodLink RX8 134 yX8_refusalOfMoving, Cond.instanceMethod yX8_refusalOfMoving, Cond.selects RX8 yX8_refusalOfMoving yX8_refusalOfMoving, Cond.initialized RX8, Cond.code yX8_refusalOfMoving cX8_refusalOfMoving 3 (some .int), Cond.fieldLink RX8 19 "HeapMover" "heaps" "LHeapMover$Heaps;", Cond.methodLink RX8 99 yX2_has, Cond.instanceMethod yX2_has, Cond.selects RX2 yX2_has yX2_has, Cond.initialized RX2, Cond.code yX2_has cX2_has 2 (some .boolean), Cond.fieldLink RX2 16 "HeapMover$Heaps" "made" "I", Cond.methodLink RX8 177 yX3_isJoined, Cond.instanceMethod yX3_isJoined, Cond.selects RX3 yX3_isJoined yX3_isJoined, Cond.initialized RX3, Cond.code yX3_isJoined cX3_isJoined 2 (some .boolean), Cond.fieldLink RX3 32 "HeapMover$Land" "places" "I"]
def wsX8_copy_r2 : List Cond := [Cond.fieldLink RX3 29 "HeapMover$Land" "distances" "[[I", Cond.constant RX3 42 (1000000), Cond.methodLink RX8 130 yX2_total, Cond.instanceMethod yX2_total, Cond.selects RX2 yX2_total yX2_total, Cond.code yX2_total cX2_total 4 (some .int), Cond.fieldLink RX2 11 "HeapMover$Heaps" "amounts" "[[I", Cond.methodLink RX8 144 yX8_makePlan, Cond.instanceMethod yX8_makePlan, Cond.selects RX8 yX8_makePlan yX8_makePlan, Cond.code yX8_makePlan cX8_makePlan 3 none, Cond.fieldLink RX8 58 "HeapMover" "plannedFrom" "I", Cond.fieldLink RX8 62 "HeapMover" "plannedTo" "I", Cond.fieldLink RX8 40 "HeapMover" "mover" "LHeapMover$Mover;", Cond.fieldLink RX8 100 "HeapMover$Heaps" "amounts" "[[I", Cond.methodLink RX8 212 yX6_make, Cond.instanceMethod yX6_make, Cond.selects RX6 yX6_make yX6_make, Cond.initialized RX6, Cond.code yX6_make cX6_make 6 none, Cond.fieldLink RX6 35 "HeapMover$Land" "places" "I", Cond.fieldLink RX6 41 "HeapMover$Mover" "network" "LHeapMover$Network;", Cond.methodLink RX6 29 yX4_cheapest, Cond.instanceMethod yX4_cheapest]
def wsX8_copy_r3 : List Cond := [Cond.selects RX4 yX4_cheapest yX4_cheapest, Cond.initialized RX4, Cond.code yX4_cheapest cX4_cheapest 7 (some .int), Cond.fieldLink RX4 12 "HeapMover$Mover" "network" "LHeapMover$Network;", Cond.fieldLink RX4 21 "HeapMover$Land" "places" "I", Cond.constant RX4 31 (1000000), Cond.fieldLink RX4 32 "HeapMover$Land" "distances" "[[I", Cond.fieldLink RX4 51 "HeapMover$Network" "spent" "I", Cond.methodLink RX4 18 yX5_empty, Cond.instanceMethod yX5_empty, Cond.selects RX5 yX5_empty yX5_empty, Cond.initialized RX5, Cond.code yX5_empty cX5_empty 1 none, Cond.fieldLink RX5 30 "HeapMover$Network" "arcs" "I", Cond.fieldLink RX5 34 "HeapMover$Network" "moved" "I", Cond.fieldLink RX5 37 "HeapMover$Network" "spent" "I", Cond.methodLink RX4 27 yX4_joinSource, Cond.instanceMethod yX4_joinSource, Cond.selects RX4 yX4_joinSource yX4_joinSource, Cond.code yX4_joinSource cX4_joinSource 6 (some .int), Cond.methodLink RX4 36 yX5_join, Cond.instanceMethod yX5_join, Cond.selects RX5 yX5_join yX5_join, Cond.code yX5_join cX5_join 5 none]
def wsX8_copy_r4 : List Cond := [Cond.methodLink RX5 40 yX5_addArc, Cond.instanceMethod yX5_addArc, Cond.selects RX5 yX5_addArc yX5_addArc, Cond.code yX5_addArc cX5_addArc 5 none, Cond.fieldLink RX5 9 "HeapMover$Network" "tails" "[I", Cond.fieldLink RX5 15 "HeapMover$Network" "heads" "[I", Cond.fieldLink RX5 18 "HeapMover$Network" "rooms" "[I", Cond.fieldLink RX5 21 "HeapMover$Network" "prices" "[I", Cond.methodLink RX4 40 yX4_joinSink, Cond.instanceMethod yX4_joinSink, Cond.selects RX4 yX4_joinSink yX4_joinSink, Cond.code yX4_joinSink cX4_joinSink 5 none, Cond.methodLink RX4 44 yX4_staying, Cond.static yX4_staying, Cond.code yX4_staying cX4_staying 5 (some .int), Cond.methodLink RX4 64 Lib.Math.min.name, Cond.static Lib.Math.min.name, Cond.initialized "java/lang/Math", Cond.code Lib.Math.min.name Lib.Math.min.code 2 (some .int), Cond.methodLink RX4 47 yX5_push, Cond.instanceMethod yX5_push, Cond.selects RX5 yX5_push yX5_push, Cond.code yX5_push cX5_push 3 none, Cond.methodLink RX5 44 yX5_search]
def wsX8_copy_r5 : List Cond := [Cond.instanceMethod yX5_search, Cond.selects RX5 yX5_search yX5_search, Cond.code yX5_search cX5_search 2 (some .boolean), Cond.fieldLink RX5 24 "HeapMover$Network" "costs" "[I", Cond.constant RX5 52 (1000000), Cond.fieldLink RX5 27 "HeapMover$Network" "lastArcs" "[I", Cond.methodLink RX5 53 yJ7_fill_53178, Cond.static yJ7_fill_53178, Cond.initialized RJ7, Cond.code yJ7_fill_53178 cJ7_fill_53178 4 none, Cond.methodLink RX5 59 yX5_relax, Cond.instanceMethod yX5_relax, Cond.selects RX5 yX5_relax yX5_relax, Cond.code yX5_relax cX5_relax 4 (some .boolean), Cond.methodLink RX5 62 yX5_isReached, Cond.instanceMethod yX5_isReached, Cond.selects RX5 yX5_isReached yX5_isReached, Cond.code yX5_isReached cX5_isReached 2 (some .boolean), Cond.methodLink RX5 48 yX5_carry, Cond.instanceMethod yX5_carry, Cond.selects RX5 yX5_carry yX5_carry, Cond.code yX5_carry cX5_carry 5 none, Cond.methodLink RX5 66 Lib.Math.min.name, Cond.methodLink RX6 45 yX6_takeGoods]
def wsX8_copy_r6 : List Cond := [Cond.instanceMethod yX6_takeGoods, Cond.selects RX6 yX6_takeGoods yX6_takeGoods, Cond.code yX6_takeGoods cX6_takeGoods 8 none, Cond.fieldLink RX6 11 "HeapMover$Planner" "goods" "[[I", Cond.methodLink RX6 65 Lib.Math.min.name, Cond.fieldLink RX6 71 "HeapMover$Network" "arcs" "I", Cond.fieldLink RX6 76 "HeapMover$Network" "tails" "[I", Cond.fieldLink RX6 79 "HeapMover$Network" "heads" "[I", Cond.fieldLink RX6 82 "HeapMover$Network" "rooms" "[I", Cond.methodLink RX6 59 yJ7_fill_53178, Cond.methodLink RX6 49 yX6_raiseHeights, Cond.instanceMethod yX6_raiseHeights, Cond.selects RX6 yX6_raiseHeights yX6_raiseHeights, Cond.code yX6_raiseHeights cX6_raiseHeights 3 none, Cond.fieldLink RX6 16 "HeapMover$Planner" "heights" "[I", Cond.fieldLink RX6 56 "HeapMover$Land" "distances" "[[I", Cond.methodLink RX6 85 yX6_lowerHeights, Cond.instanceMethod yX6_lowerHeights, Cond.selects RX6 yX6_lowerHeights yX6_lowerHeights, Cond.code yX6_lowerHeights cX6_lowerHeights 6 (some .boolean), Cond.methodLink RX6 53 yX6_putFirst, Cond.instanceMethod yX6_putFirst, Cond.selects RX6 yX6_putFirst yX6_putFirst, Cond.code yX6_putFirst cX6_putFirst 6 none]
def wsX8_copy_r7 : List Cond := [Cond.methodLink RX6 89 yX6_isTight, Cond.instanceMethod yX6_isTight, Cond.selects RX6 yX6_isTight yX6_isTight, Cond.code yX6_isTight cX6_isTight 4 (some .boolean), Cond.methodLink RX6 93 yX6_cell, Cond.static yX6_cell, Cond.code yX6_cell cX6_cell 2 (some .int), Cond.methodLink RX6 96 yX6_findRing, Cond.instanceMethod yX6_findRing, Cond.selects RX6 yX6_findRing yX6_findRing, Cond.code yX6_findRing cX6_findRing 10 (some .boolean), Cond.fieldLink RX6 20 "HeapMover$Planner" "rowFrom" "[I", Cond.fieldLink RX6 23 "HeapMover$Planner" "columnFrom" "[I", Cond.fieldLink RX6 26 "HeapMover$Planner" "columns" "[I", Cond.methodLink RX6 104 yX6_reachColumns, Cond.instanceMethod yX6_reachColumns, Cond.selects RX6 yX6_reachColumns yX6_reachColumns, Cond.code yX6_reachColumns cX6_reachColumns 7 (some .int), Cond.methodLink RX6 100 yX6_turnRing, Cond.instanceMethod yX6_turnRing, Cond.selects RX6 yX6_turnRing yX6_turnRing, Cond.code yX6_turnRing cX6_turnRing 7 none, Cond.methodLink RX6 108 yX6_ringAmount, Cond.instanceMethod yX6_ringAmount]
def wsX8_copy_r8 : List Cond := [Cond.selects RX6 yX6_ringAmount yX6_ringAmount, Cond.code yX6_ringAmount cX6_ringAmount 7 (some .int), Cond.methodLink RX8 192 yX1_others, Cond.instanceMethod yX1_others, Cond.selects RX1 yX1_others yX1_others, Cond.initialized RX1, Cond.code yX1_others cX1_others 4 (some .int), Cond.fieldLink RX1 11 "HeapMover$Draft" "numbers" "[[I"]
def wsX8_copy : List Cond := .code yX8_copy cX8_copy 6 (some .int) :: ((wsX8_copy_r1 ++ (wsX8_copy_r2 ++ (wsX8_copy_r3 ++ (wsX8_copy_r4 ++ (wsX8_copy_r5 ++ (wsX8_copy_r6 ++ (wsX8_copy_r7 ++ wsX8_copy_r8))))))) ++ wsX80 ++ wsX30 ++ wsX10 ++ wsX60 ++ wsX20 ++ wsX40 ++ wsX50)
def wsX8_judge_r1 : List Cond := [Cond.fieldLink RX8 33 "HeapMover" "drafted" "LHeapMover$Draft;", Cond.fieldLink RX8 12 "HeapMover" "land" "LHeapMover$Land;", Cond.fieldLink RX8 74 "HeapMover$Land" "places" "I", Cond.fieldLink RX8 19 "HeapMover" "heaps" "LHeapMover$Heaps;", Cond.fieldLink RX8 100 "HeapMover$Heaps" "amounts" "[[I", Cond.fieldLink RX8 71 "HeapMover" "told" "I", Cond.methodLink RX8 134 yX8_refusalOfMoving, Cond.instanceMethod yX8_refusalOfMoving, Cond.selects RX8 yX8_refusalOfMoving yX8_refusalOfMoving, Cond.initialized RX8, Cond.code yX8_refusalOfMoving cX8_refusalOfMoving 3 (some .int), Cond.methodLink RX8 99 yX2_has, Cond.instanceMethod yX2_has, Cond.selects RX2 yX2_has yX2_has, Cond.initialized RX2, Cond.code yX2_has cX2_has 2 (some .boolean), Cond.fieldLink RX2 16 "HeapMover$Heaps" "made" "I", Cond.methodLink RX8 177 yX3_isJoined, Cond.instanceMethod yX3_isJoined, Cond.selects RX3 yX3_isJoined yX3_isJoined, Cond.initialized RX3, Cond.code yX3_isJoined cX3_isJoined 2 (some .boolean), Cond.fieldLink RX3 32 "HeapMover$Land" "places" "I", Cond.fieldLink RX3 29 "HeapMover$Land" "distances" "[[I"]
def wsX8_judge_r2 : List Cond := [Cond.constant RX3 42 (1000000), Cond.methodLink RX8 130 yX2_total, Cond.instanceMethod yX2_total, Cond.selects RX2 yX2_total yX2_total, Cond.code yX2_total cX2_total 4 (some .int), Cond.fieldLink RX2 11 "HeapMover$Heaps" "amounts" "[[I", Cond.methodLink RX8 198 yX1_firstWrongFrom, Cond.instanceMethod yX1_firstWrongFrom, Cond.selects RX1 yX1_firstWrongFrom yX1_firstWrongFrom, Cond.initialized RX1, Cond.code yX1_firstWrongFrom cX1_firstWrongFrom 6 (some .int), Cond.fieldLink RX1 11 "HeapMover$Draft" "numbers" "[[I", Cond.methodLink RX8 202 yX1_firstWrongTo, Cond.instanceMethod yX1_firstWrongTo, Cond.selects RX1 yX1_firstWrongTo yX1_firstWrongTo, Cond.code yX1_firstWrongTo cX1_firstWrongTo 6 (some .int), Cond.methodLink RX8 205 yX1_cost, Cond.instanceMethod yX1_cost, Cond.selects RX1 yX1_cost yX1_cost, Cond.code yX1_cost cX1_cost 5 (some .int), Cond.fieldLink RX1 22 "HeapMover$Land" "places" "I", Cond.fieldLink RX1 28 "HeapMover$Land" "distances" "[[I", Cond.methodLink RX8 137 yX8_leastCost, Cond.instanceMethod yX8_leastCost]
def wsX8_judge_r3 : List Cond := [Cond.selects RX8 yX8_leastCost yX8_leastCost, Cond.code yX8_leastCost cX8_leastCost 3 (some .int), Cond.fieldLink RX8 40 "HeapMover" "mover" "LHeapMover$Mover;", Cond.methodLink RX8 181 yX4_cheapest, Cond.instanceMethod yX4_cheapest, Cond.selects RX4 yX4_cheapest yX4_cheapest, Cond.initialized RX4, Cond.code yX4_cheapest cX4_cheapest 7 (some .int), Cond.fieldLink RX4 12 "HeapMover$Mover" "network" "LHeapMover$Network;", Cond.fieldLink RX4 21 "HeapMover$Land" "places" "I", Cond.constant RX4 31 (1000000), Cond.fieldLink RX4 32 "HeapMover$Land" "distances" "[[I", Cond.fieldLink RX4 51 "HeapMover$Network" "spent" "I", Cond.methodLink RX4 18 yX5_empty, Cond.instanceMethod yX5_empty, Cond.selects RX5 yX5_empty yX5_empty, Cond.initialized RX5, Cond.code yX5_empty cX5_empty 1 none, Cond.fieldLink RX5 30 "HeapMover$Network" "arcs" "I", Cond.fieldLink RX5 34 "HeapMover$Network" "moved" "I", Cond.fieldLink RX5 37 "HeapMover$Network" "spent" "I", Cond.methodLink RX4 27 yX4_joinSource, Cond.instanceMethod yX4_joinSource, Cond.selects RX4 yX4_joinSource yX4_joinSource]
def wsX8_judge_r4 : List Cond := [Cond.code yX4_joinSource cX4_joinSource 6 (some .int), Cond.methodLink RX4 36 yX5_join, Cond.instanceMethod yX5_join, Cond.selects RX5 yX5_join yX5_join, Cond.code yX5_join cX5_join 5 none, Cond.methodLink RX5 40 yX5_addArc, Cond.instanceMethod yX5_addArc, Cond.selects RX5 yX5_addArc yX5_addArc, Cond.code yX5_addArc cX5_addArc 5 none, Cond.fieldLink RX5 9 "HeapMover$Network" "tails" "[I", Cond.fieldLink RX5 15 "HeapMover$Network" "heads" "[I", Cond.fieldLink RX5 18 "HeapMover$Network" "rooms" "[I", Cond.fieldLink RX5 21 "HeapMover$Network" "prices" "[I", Cond.methodLink RX4 40 yX4_joinSink, Cond.instanceMethod yX4_joinSink, Cond.selects RX4 yX4_joinSink yX4_joinSink, Cond.code yX4_joinSink cX4_joinSink 5 none, Cond.methodLink RX4 44 yX4_staying, Cond.static yX4_staying, Cond.code yX4_staying cX4_staying 5 (some .int), Cond.methodLink RX4 64 Lib.Math.min.name, Cond.static Lib.Math.min.name, Cond.initialized "java/lang/Math", Cond.code Lib.Math.min.name Lib.Math.min.code 2 (some .int)]
def wsX8_judge_r5 : List Cond := [Cond.methodLink RX4 47 yX5_push, Cond.instanceMethod yX5_push, Cond.selects RX5 yX5_push yX5_push, Cond.code yX5_push cX5_push 3 none, Cond.methodLink RX5 44 yX5_search, Cond.instanceMethod yX5_search, Cond.selects RX5 yX5_search yX5_search, Cond.code yX5_search cX5_search 2 (some .boolean), Cond.fieldLink RX5 24 "HeapMover$Network" "costs" "[I", Cond.constant RX5 52 (1000000), Cond.fieldLink RX5 27 "HeapMover$Network" "lastArcs" "[I", Cond.methodLink RX5 53 yJ7_fill_53178, Cond.static yJ7_fill_53178, Cond.initialized RJ7, Cond.code yJ7_fill_53178 cJ7_fill_53178 4 none, Cond.methodLink RX5 59 yX5_relax, Cond.instanceMethod yX5_relax, Cond.selects RX5 yX5_relax yX5_relax, Cond.code yX5_relax cX5_relax 4 (some .boolean), Cond.methodLink RX5 62 yX5_isReached, Cond.instanceMethod yX5_isReached, Cond.selects RX5 yX5_isReached yX5_isReached, Cond.code yX5_isReached cX5_isReached 2 (some .boolean), Cond.methodLink RX5 48 yX5_carry]
def wsX8_judge_r6 : List Cond := [Cond.instanceMethod yX5_carry, Cond.selects RX5 yX5_carry yX5_carry, Cond.code yX5_carry cX5_carry 5 none, Cond.methodLink RX5 66 Lib.Math.min.name]
def wsX8_judge : List Cond := .code yX8_judge cX8_judge 5 (some .int) :: ((wsX8_judge_r1 ++ (wsX8_judge_r2 ++ (wsX8_judge_r3 ++ (wsX8_judge_r4 ++ (wsX8_judge_r5 ++ wsX8_judge_r6))))) ++ wsX80 ++ wsX30 ++ wsX20 ++ wsX10 ++ wsX40 ++ wsX50)
def wsX8_beside : List Cond := .code yX8_beside cX8_beside 1 (some .int) :: ([.fieldLink RX8 71 "HeapMover" "told" "I"] ++ wsX80)
def wsX8_count : List Cond := .code yX8_count cX8_count 2 (some .int) :: ([.fieldLink RX8 12 "HeapMover" "land" "LHeapMover$Land;", .fieldLink RX8 74 "HeapMover$Land" "places" "I", .fieldLink RX8 89 "HeapMover$Land" "roads" "I", .fieldLink RX8 19 "HeapMover" "heaps" "LHeapMover$Heaps;", .fieldLink RX8 96 "HeapMover$Heaps" "made" "I", .fieldLink RX8 26 "HeapMover" "changes" "LHeapMover$Changes;", .fieldLink RX8 109 "HeapMover$Changes" "kept" "I", .methodLink RX8 209 yX3_gates, .instanceMethod yX3_gates, .selects RX3 yX3_gates yX3_gates, .initialized RX3, .code yX3_gates cX3_gates 3 (some .int), .fieldLink RX3 32 "HeapMover$Land" "places" "I", .fieldLink RX3 21 "HeapMover$Land" "bounds" "[I", .methodLink RX8 177 yX3_isJoined, .instanceMethod yX3_isJoined, .selects RX3 yX3_isJoined yX3_isJoined, .code yX3_isJoined cX3_isJoined 2 (some .boolean), .fieldLink RX3 29 "HeapMover$Land" "distances" "[[I", .constant RX3 42 (1000000)] ++ wsX80 ++ wsX30 ++ wsX20 ++ wsX00)
def wsX9_init_r1 : List Cond := [Cond.methodLink RX9 1 objectInit, Cond.instanceMethod objectInit, Cond.code objectInit ⟨#[0xb1]⟩ 1 none, Cond.arrayClass .int, Cond.fieldLink RX9 7 "HeapMoverModel" "roadU" "[I", Cond.fieldLink RX9 13 "HeapMoverModel" "roadV" "[I", Cond.fieldLink RX9 16 "HeapMoverModel" "roadLength" "[I", Cond.fieldLink RX9 19 "HeapMoverModel" "amounts" "[I", Cond.fieldLink RX9 22 "HeapMoverModel" "bounds" "[I", Cond.fieldLink RX9 25 "HeapMoverModel" "drafts" "[I", Cond.fieldLink RX9 28 "HeapMoverModel" "keptWhat" "[I", Cond.fieldLink RX9 31 "HeapMoverModel" "keptAt" "[I", Cond.fieldLink RX9 34 "HeapMoverModel" "keptWas" "[I", Cond.fieldLink RX9 37 "HeapMoverModel" "far" "[I", Cond.fieldLink RX9 40 "HeapMoverModel" "flow" "[I", Cond.fieldLink RX9 43 "HeapMoverModel" "supply" "[I", Cond.fieldLink RX9 46 "HeapMoverModel" "demand" "[I", Cond.fieldLink RX9 49 "HeapMoverModel" "heights" "[I", Cond.fieldLink RX9 52 "HeapMoverModel" "dear" "[I", Cond.fieldLink RX9 55 "HeapMoverModel" "came" "[I", Cond.arrayClass .boolean, Cond.fieldLink RX9 58 "HeapMoverModel" "isFixed" "[Z", Cond.fieldLink RX9 62 "HeapMoverModel" "isSeen" "[Z", Cond.fieldLink RX9 65 "HeapMoverModel" "queue" "[I"]
def wsX9_init_r2 : List Cond := [Cond.fieldLink RX9 68 "HeapMoverModel" "arcFrom" "[I", Cond.fieldLink RX9 71 "HeapMoverModel" "arcTo" "[I", Cond.fieldLink RX9 74 "HeapMoverModel" "arcRoom" "[I", Cond.fieldLink RX9 77 "HeapMoverModel" "arcCost" "[I", Cond.fieldLink RX9 80 "HeapMoverModel" "netDear" "[I", Cond.fieldLink RX9 83 "HeapMoverModel" "netCame" "[I"]
def wsX9_init : List Cond := .code yX9_init cX9_init 2 none :: ((wsX9_init_r1 ++ wsX9_init_r2) ++ wsX90)
def wsX9_in : List Cond := .code yX9_in cX9_in 3 (some .boolean) :: ([])
def wsX9_isPlace : List Cond := .code yX9_isPlace cX9_isPlace 2 (some .boolean) :: ([.fieldLink RX9 86 "HeapMoverModel" "places" "I", .methodLink RX9 90 yX9_in, .static yX9_in, .initialized RX9, .code yX9_in cX9_in 3 (some .boolean)] ++ wsX90)
def wsX9_isHeap : List Cond := .code yX9_isHeap cX9_isHeap 2 (some .boolean) :: ([.fieldLink RX9 94 "HeapMoverModel" "heaps" "I", .methodLink RX9 90 yX9_in, .static yX9_in, .initialized RX9, .code yX9_in cX9_in 3 (some .boolean)] ++ wsX90)
def wsX9_keep : List Cond := .code yX9_keep cX9_keep 5 none :: ([.fieldLink RX9 97 "HeapMoverModel" "kept" "I", .fieldLink RX9 28 "HeapMoverModel" "keptWhat" "[I", .fieldLink RX9 31 "HeapMoverModel" "keptAt" "[I", .fieldLink RX9 34 "HeapMoverModel" "keptWas" "[I"] ++ wsX90)
def wsX9_place : List Cond := .code yX9_place cX9_place 2 (some .int) :: ([.fieldLink RX9 86 "HeapMoverModel" "places" "I", .fieldLink RX9 22 "HeapMoverModel" "bounds" "[I", .fieldLink RX9 19 "HeapMoverModel" "amounts" "[I", .methodLink RX9 100 yX9_keep, .instanceMethod yX9_keep, .selects RX9 yX9_keep yX9_keep, .initialized RX9, .code yX9_keep cX9_keep 5 none, .fieldLink RX9 97 "HeapMoverModel" "kept" "I", .fieldLink RX9 28 "HeapMoverModel" "keptWhat" "[I", .fieldLink RX9 31 "HeapMoverModel" "keptAt" "[I", .fieldLink RX9 34 "HeapMoverModel" "keptWas" "[I"] ++ wsX90)
def wsX9_road : List Cond := .code yX9_road cX9_road 4 (some .int) :: ([.fieldLink RX9 108 "HeapMoverModel" "roads" "I", .fieldLink RX9 7 "HeapMoverModel" "roadU" "[I", .fieldLink RX9 13 "HeapMoverModel" "roadV" "[I", .fieldLink RX9 16 "HeapMoverModel" "roadLength" "[I", .methodLink RX9 104 yX9_isPlace, .instanceMethod yX9_isPlace, .selects RX9 yX9_isPlace yX9_isPlace, .initialized RX9, .code yX9_isPlace cX9_isPlace 2 (some .boolean), .fieldLink RX9 86 "HeapMoverModel" "places" "I", .methodLink RX9 90 yX9_in, .static yX9_in, .code yX9_in cX9_in 3 (some .boolean), .methodLink RX9 100 yX9_keep, .instanceMethod yX9_keep, .selects RX9 yX9_keep yX9_keep, .code yX9_keep cX9_keep 5 none, .fieldLink RX9 97 "HeapMoverModel" "kept" "I", .fieldLink RX9 28 "HeapMoverModel" "keptWhat" "[I", .fieldLink RX9 31 "HeapMoverModel" "keptAt" "[I", .fieldLink RX9 34 "HeapMoverModel" "keptWas" "[I"] ++ wsX90)
def wsX9_heap : List Cond := .code yX9_heap cX9_heap 2 (some .int) :: ([.fieldLink RX9 94 "HeapMoverModel" "heaps" "I", .fieldLink RX9 19 "HeapMoverModel" "amounts" "[I", .methodLink RX9 100 yX9_keep, .instanceMethod yX9_keep, .selects RX9 yX9_keep yX9_keep, .initialized RX9, .code yX9_keep cX9_keep 5 none, .fieldLink RX9 97 "HeapMoverModel" "kept" "I", .fieldLink RX9 28 "HeapMoverModel" "keptWhat" "[I", .fieldLink RX9 31 "HeapMoverModel" "keptAt" "[I", .fieldLink RX9 34 "HeapMoverModel" "keptWas" "[I"] ++ wsX90)
def wsX9_set : List Cond := .code yX9_set cX9_set 6 (some .int) :: ([.fieldLink RX9 19 "HeapMoverModel" "amounts" "[I", .methodLink RX9 111 yX9_isHeap, .instanceMethod yX9_isHeap, .selects RX9 yX9_isHeap yX9_isHeap, .initialized RX9, .code yX9_isHeap cX9_isHeap 2 (some .boolean), .fieldLink RX9 94 "HeapMoverModel" "heaps" "I", .methodLink RX9 90 yX9_in, .static yX9_in, .code yX9_in cX9_in 3 (some .boolean), .methodLink RX9 104 yX9_isPlace, .instanceMethod yX9_isPlace, .selects RX9 yX9_isPlace yX9_isPlace, .code yX9_isPlace cX9_isPlace 2 (some .boolean), .fieldLink RX9 86 "HeapMoverModel" "places" "I", .methodLink RX9 100 yX9_keep, .instanceMethod yX9_keep, .selects RX9 yX9_keep yX9_keep, .code yX9_keep cX9_keep 5 none, .fieldLink RX9 97 "HeapMoverModel" "kept" "I", .fieldLink RX9 28 "HeapMoverModel" "keptWhat" "[I", .fieldLink RX9 31 "HeapMoverModel" "keptAt" "[I", .fieldLink RX9 34 "HeapMoverModel" "keptWas" "[I"] ++ wsX90)
def wsX9_gate : List Cond := .code yX9_gate cX9_gate 4 (some .int) :: ([.constant RX9 114 (100000), .fieldLink RX9 22 "HeapMoverModel" "bounds" "[I", .methodLink RX9 104 yX9_isPlace, .instanceMethod yX9_isPlace, .selects RX9 yX9_isPlace yX9_isPlace, .initialized RX9, .code yX9_isPlace cX9_isPlace 2 (some .boolean), .fieldLink RX9 86 "HeapMoverModel" "places" "I", .methodLink RX9 90 yX9_in, .static yX9_in, .code yX9_in cX9_in 3 (some .boolean), .methodLink RX9 100 yX9_keep, .instanceMethod yX9_keep, .selects RX9 yX9_keep yX9_keep, .code yX9_keep cX9_keep 5 none, .fieldLink RX9 97 "HeapMoverModel" "kept" "I", .fieldLink RX9 28 "HeapMoverModel" "keptWhat" "[I", .fieldLink RX9 31 "HeapMoverModel" "keptAt" "[I", .fieldLink RX9 34 "HeapMoverModel" "keptWas" "[I"] ++ wsX90)
def wsX9_undo : List Cond := .code yX9_undo cX9_undo 4 (some .int) :: ([.fieldLink RX9 97 "HeapMoverModel" "kept" "I", .fieldLink RX9 28 "HeapMoverModel" "keptWhat" "[I", .fieldLink RX9 31 "HeapMoverModel" "keptAt" "[I", .fieldLink RX9 86 "HeapMoverModel" "places" "I", .fieldLink RX9 25 "HeapMoverModel" "drafts" "[I", .fieldLink RX9 108 "HeapMoverModel" "roads" "I", .fieldLink RX9 94 "HeapMoverModel" "heaps" "I", .fieldLink RX9 19 "HeapMoverModel" "amounts" "[I", .fieldLink RX9 34 "HeapMoverModel" "keptWas" "[I", .fieldLink RX9 22 "HeapMoverModel" "bounds" "[I"] ++ wsX90)
def wsX9_findFar : List Cond := .code yX9_findFar cX9_findFar 5 none :: ([.fieldLink RX9 37 "HeapMoverModel" "far" "[I", .constant RX9 115 (1000000000), .fieldLink RX9 108 "HeapMoverModel" "roads" "I", .fieldLink RX9 7 "HeapMoverModel" "roadU" "[I", .fieldLink RX9 13 "HeapMoverModel" "roadV" "[I", .fieldLink RX9 16 "HeapMoverModel" "roadLength" "[I", .fieldLink RX9 86 "HeapMoverModel" "places" "I"] ++ wsX90)
def wsX9_isJoined : List Cond := .code yX9_isJoined cX9_isJoined 3 (some .boolean) :: ([.fieldLink RX9 86 "HeapMoverModel" "places" "I", .fieldLink RX9 37 "HeapMoverModel" "far" "[I", .constant RX9 115 (1000000000), .methodLink RX9 116 yX9_findFar, .instanceMethod yX9_findFar, .selects RX9 yX9_findFar yX9_findFar, .initialized RX9, .code yX9_findFar cX9_findFar 5 none, .fieldLink RX9 108 "HeapMoverModel" "roads" "I", .fieldLink RX9 7 "HeapMoverModel" "roadU" "[I", .fieldLink RX9 13 "HeapMoverModel" "roadV" "[I", .fieldLink RX9 16 "HeapMoverModel" "roadLength" "[I"] ++ wsX90)
def wsX9_apart : List Cond := .code yX9_apart cX9_apart 3 (some .int) :: ([.fieldLink RX9 37 "HeapMoverModel" "far" "[I", .constant RX9 115 (1000000000), .methodLink RX9 104 yX9_isPlace, .instanceMethod yX9_isPlace, .selects RX9 yX9_isPlace yX9_isPlace, .initialized RX9, .code yX9_isPlace cX9_isPlace 2 (some .boolean), .fieldLink RX9 86 "HeapMoverModel" "places" "I", .methodLink RX9 90 yX9_in, .static yX9_in, .code yX9_in cX9_in 3 (some .boolean), .methodLink RX9 116 yX9_findFar, .instanceMethod yX9_findFar, .selects RX9 yX9_findFar yX9_findFar, .code yX9_findFar cX9_findFar 5 none, .fieldLink RX9 108 "HeapMoverModel" "roads" "I", .fieldLink RX9 7 "HeapMoverModel" "roadU" "[I", .fieldLink RX9 13 "HeapMoverModel" "roadV" "[I", .fieldLink RX9 16 "HeapMoverModel" "roadLength" "[I"] ++ wsX90)
def wsX9_nextTo : List Cond := .code yX9_nextTo cX9_nextTo 7 (some .int) :: ([.fieldLink RX9 108 "HeapMoverModel" "roads" "I", .fieldLink RX9 7 "HeapMoverModel" "roadU" "[I", .fieldLink RX9 13 "HeapMoverModel" "roadV" "[I", .fieldLink RX9 37 "HeapMoverModel" "far" "[I", .constant RX9 115 (1000000000), .fieldLink RX9 16 "HeapMoverModel" "roadLength" "[I"] ++ wsX90)
def wsX9_next : List Cond := .code yX9_next cX9_next 3 (some .int) :: ([.methodLink RX9 104 yX9_isPlace, .instanceMethod yX9_isPlace, .selects RX9 yX9_isPlace yX9_isPlace, .initialized RX9, .code yX9_isPlace cX9_isPlace 2 (some .boolean), .fieldLink RX9 86 "HeapMoverModel" "places" "I", .methodLink RX9 90 yX9_in, .static yX9_in, .code yX9_in cX9_in 3 (some .boolean), .methodLink RX9 116 yX9_findFar, .instanceMethod yX9_findFar, .selects RX9 yX9_findFar yX9_findFar, .code yX9_findFar cX9_findFar 5 none, .fieldLink RX9 37 "HeapMoverModel" "far" "[I", .constant RX9 115 (1000000000), .fieldLink RX9 108 "HeapMoverModel" "roads" "I", .fieldLink RX9 7 "HeapMoverModel" "roadU" "[I", .fieldLink RX9 13 "HeapMoverModel" "roadV" "[I", .fieldLink RX9 16 "HeapMoverModel" "roadLength" "[I", .methodLink RX9 119 yX9_nextTo, .instanceMethod yX9_nextTo, .selects RX9 yX9_nextTo yX9_nextTo, .code yX9_nextTo cX9_nextTo 7 (some .int)] ++ wsX90)
def wsX9_amount : List Cond := .code yX9_amount cX9_amount 3 (some .int) :: ([.fieldLink RX9 19 "HeapMoverModel" "amounts" "[I", .methodLink RX9 111 yX9_isHeap, .instanceMethod yX9_isHeap, .selects RX9 yX9_isHeap yX9_isHeap, .initialized RX9, .code yX9_isHeap cX9_isHeap 2 (some .boolean), .fieldLink RX9 94 "HeapMoverModel" "heaps" "I", .methodLink RX9 90 yX9_in, .static yX9_in, .code yX9_in cX9_in 3 (some .boolean), .methodLink RX9 104 yX9_isPlace, .instanceMethod yX9_isPlace, .selects RX9 yX9_isPlace yX9_isPlace, .code yX9_isPlace cX9_isPlace 2 (some .boolean), .fieldLink RX9 86 "HeapMoverModel" "places" "I"] ++ wsX90)
def wsX9_sumOf : List Cond := .code yX9_sumOf cX9_sumOf 4 (some .int) :: ([.fieldLink RX9 86 "HeapMoverModel" "places" "I", .fieldLink RX9 19 "HeapMoverModel" "amounts" "[I"] ++ wsX90)
def wsX9_sum : List Cond := .code yX9_sum cX9_sum 2 (some .int) :: ([.methodLink RX9 111 yX9_isHeap, .instanceMethod yX9_isHeap, .selects RX9 yX9_isHeap yX9_isHeap, .initialized RX9, .code yX9_isHeap cX9_isHeap 2 (some .boolean), .fieldLink RX9 94 "HeapMoverModel" "heaps" "I", .methodLink RX9 90 yX9_in, .static yX9_in, .code yX9_in cX9_in 3 (some .boolean), .methodLink RX9 123 yX9_sumOf, .instanceMethod yX9_sumOf, .selects RX9 yX9_sumOf yX9_sumOf, .code yX9_sumOf cX9_sumOf 4 (some .int), .fieldLink RX9 86 "HeapMoverModel" "places" "I", .fieldLink RX9 19 "HeapMoverModel" "amounts" "[I"] ++ wsX90)
def wsX9_begin : List Cond := .code yX9_begin cX9_begin 4 none :: ([.fieldLink RX9 40 "HeapMoverModel" "flow" "[I", .fieldLink RX9 86 "HeapMoverModel" "places" "I", .fieldLink RX9 43 "HeapMoverModel" "supply" "[I", .fieldLink RX9 19 "HeapMoverModel" "amounts" "[I", .fieldLink RX9 46 "HeapMoverModel" "demand" "[I"] ++ wsX90)
def wsX9_findWay : List Cond := .code yX9_findWay cX9_findWay 5 (some .int) :: ([.fieldLink RX9 86 "HeapMoverModel" "places" "I", .fieldLink RX9 52 "HeapMoverModel" "dear" "[I", .fieldLink RX9 43 "HeapMoverModel" "supply" "[I", .constant RX9 115 (1000000000), .fieldLink RX9 55 "HeapMoverModel" "came" "[I", .fieldLink RX9 37 "HeapMoverModel" "far" "[I", .fieldLink RX9 40 "HeapMoverModel" "flow" "[I", .fieldLink RX9 46 "HeapMoverModel" "demand" "[I"] ++ wsX90)
def wsX9_go : List Cond := .code yX9_go cX9_go 6 (some .int) :: ([.fieldLink RX9 46 "HeapMoverModel" "demand" "[I", .fieldLink RX9 55 "HeapMoverModel" "came" "[I", .fieldLink RX9 40 "HeapMoverModel" "flow" "[I", .fieldLink RX9 43 "HeapMoverModel" "supply" "[I"] ++ wsX90)
def wsX9_costOf : List Cond := .code yX9_costOf cX9_costOf 5 (some .int) :: ([.fieldLink RX9 86 "HeapMoverModel" "places" "I", .fieldLink RX9 37 "HeapMoverModel" "far" "[I"] ++ wsX90)
def wsX9_solve_r1 : List Cond := [Cond.fieldLink RX9 40 "HeapMoverModel" "flow" "[I", Cond.methodLink RX9 127 yX9_begin, Cond.instanceMethod yX9_begin, Cond.selects RX9 yX9_begin yX9_begin, Cond.initialized RX9, Cond.code yX9_begin cX9_begin 4 none, Cond.fieldLink RX9 86 "HeapMoverModel" "places" "I", Cond.fieldLink RX9 43 "HeapMoverModel" "supply" "[I", Cond.fieldLink RX9 19 "HeapMoverModel" "amounts" "[I", Cond.fieldLink RX9 46 "HeapMoverModel" "demand" "[I", Cond.methodLink RX9 131 yX9_findWay, Cond.instanceMethod yX9_findWay, Cond.selects RX9 yX9_findWay yX9_findWay, Cond.code yX9_findWay cX9_findWay 5 (some .int), Cond.fieldLink RX9 52 "HeapMoverModel" "dear" "[I", Cond.constant RX9 115 (1000000000), Cond.fieldLink RX9 55 "HeapMoverModel" "came" "[I", Cond.fieldLink RX9 37 "HeapMoverModel" "far" "[I", Cond.methodLink RX9 135 yX9_go, Cond.instanceMethod yX9_go, Cond.selects RX9 yX9_go yX9_go, Cond.code yX9_go cX9_go 6 (some .int), Cond.methodLink RX9 138 yX9_costOf, Cond.instanceMethod yX9_costOf]
def wsX9_solve_r2 : List Cond := [Cond.selects RX9 yX9_costOf yX9_costOf, Cond.code yX9_costOf cX9_costOf 5 (some .int)]
def wsX9_solve : List Cond := .code yX9_solve cX9_solve 6 (some .int) :: ((wsX9_solve_r1 ++ wsX9_solve_r2) ++ wsX90)
def wsX9_against_r1 : List Cond := [Cond.methodLink RX9 111 yX9_isHeap, Cond.instanceMethod yX9_isHeap, Cond.selects RX9 yX9_isHeap yX9_isHeap, Cond.initialized RX9, Cond.code yX9_isHeap cX9_isHeap 2 (some .boolean), Cond.fieldLink RX9 94 "HeapMoverModel" "heaps" "I", Cond.methodLink RX9 90 yX9_in, Cond.static yX9_in, Cond.code yX9_in cX9_in 3 (some .boolean), Cond.methodLink RX9 142 yX9_isJoined, Cond.instanceMethod yX9_isJoined, Cond.selects RX9 yX9_isJoined yX9_isJoined, Cond.code yX9_isJoined cX9_isJoined 3 (some .boolean), Cond.fieldLink RX9 86 "HeapMoverModel" "places" "I", Cond.fieldLink RX9 37 "HeapMoverModel" "far" "[I", Cond.constant RX9 115 (1000000000), Cond.methodLink RX9 116 yX9_findFar, Cond.instanceMethod yX9_findFar, Cond.selects RX9 yX9_findFar yX9_findFar, Cond.code yX9_findFar cX9_findFar 5 none, Cond.fieldLink RX9 108 "HeapMoverModel" "roads" "I", Cond.fieldLink RX9 7 "HeapMoverModel" "roadU" "[I", Cond.fieldLink RX9 13 "HeapMoverModel" "roadV" "[I", Cond.fieldLink RX9 16 "HeapMoverModel" "roadLength" "[I"]
def wsX9_against_r2 : List Cond := [Cond.methodLink RX9 123 yX9_sumOf, Cond.instanceMethod yX9_sumOf, Cond.selects RX9 yX9_sumOf yX9_sumOf, Cond.code yX9_sumOf cX9_sumOf 4 (some .int), Cond.fieldLink RX9 19 "HeapMoverModel" "amounts" "[I"]
def wsX9_against : List Cond := .code yX9_against cX9_against 3 (some .int) :: ((wsX9_against_r1 ++ wsX9_against_r2) ++ wsX90)
def wsX9_least_r1 : List Cond := [Cond.methodLink RX9 146 yX9_against, Cond.instanceMethod yX9_against, Cond.selects RX9 yX9_against yX9_against, Cond.initialized RX9, Cond.code yX9_against cX9_against 3 (some .int), Cond.methodLink RX9 111 yX9_isHeap, Cond.instanceMethod yX9_isHeap, Cond.selects RX9 yX9_isHeap yX9_isHeap, Cond.code yX9_isHeap cX9_isHeap 2 (some .boolean), Cond.fieldLink RX9 94 "HeapMoverModel" "heaps" "I", Cond.methodLink RX9 90 yX9_in, Cond.static yX9_in, Cond.code yX9_in cX9_in 3 (some .boolean), Cond.methodLink RX9 142 yX9_isJoined, Cond.instanceMethod yX9_isJoined, Cond.selects RX9 yX9_isJoined yX9_isJoined, Cond.code yX9_isJoined cX9_isJoined 3 (some .boolean), Cond.fieldLink RX9 86 "HeapMoverModel" "places" "I", Cond.fieldLink RX9 37 "HeapMoverModel" "far" "[I", Cond.constant RX9 115 (1000000000), Cond.methodLink RX9 116 yX9_findFar, Cond.instanceMethod yX9_findFar, Cond.selects RX9 yX9_findFar yX9_findFar, Cond.code yX9_findFar cX9_findFar 5 none]
def wsX9_least_r2 : List Cond := [Cond.fieldLink RX9 108 "HeapMoverModel" "roads" "I", Cond.fieldLink RX9 7 "HeapMoverModel" "roadU" "[I", Cond.fieldLink RX9 13 "HeapMoverModel" "roadV" "[I", Cond.fieldLink RX9 16 "HeapMoverModel" "roadLength" "[I", Cond.methodLink RX9 123 yX9_sumOf, Cond.instanceMethod yX9_sumOf, Cond.selects RX9 yX9_sumOf yX9_sumOf, Cond.code yX9_sumOf cX9_sumOf 4 (some .int), Cond.fieldLink RX9 19 "HeapMoverModel" "amounts" "[I", Cond.methodLink RX9 149 yX9_solve, Cond.instanceMethod yX9_solve, Cond.selects RX9 yX9_solve yX9_solve, Cond.code yX9_solve cX9_solve 6 (some .int), Cond.fieldLink RX9 40 "HeapMoverModel" "flow" "[I", Cond.methodLink RX9 127 yX9_begin, Cond.instanceMethod yX9_begin, Cond.selects RX9 yX9_begin yX9_begin, Cond.code yX9_begin cX9_begin 4 none, Cond.fieldLink RX9 43 "HeapMoverModel" "supply" "[I", Cond.fieldLink RX9 46 "HeapMoverModel" "demand" "[I", Cond.methodLink RX9 131 yX9_findWay, Cond.instanceMethod yX9_findWay, Cond.selects RX9 yX9_findWay yX9_findWay, Cond.code yX9_findWay cX9_findWay 5 (some .int)]
def wsX9_least_r3 : List Cond := [Cond.fieldLink RX9 52 "HeapMoverModel" "dear" "[I", Cond.fieldLink RX9 55 "HeapMoverModel" "came" "[I", Cond.methodLink RX9 135 yX9_go, Cond.instanceMethod yX9_go, Cond.selects RX9 yX9_go yX9_go, Cond.code yX9_go cX9_go 6 (some .int), Cond.methodLink RX9 138 yX9_costOf, Cond.instanceMethod yX9_costOf, Cond.selects RX9 yX9_costOf yX9_costOf, Cond.code yX9_costOf cX9_costOf 5 (some .int)]
def wsX9_least : List Cond := .code yX9_least cX9_least 4 (some .int) :: ((wsX9_least_r1 ++ (wsX9_least_r2 ++ wsX9_least_r3)) ++ wsX90)
def wsX9_findHeights : List Cond := .code yX9_findHeights cX9_findHeights 5 none :: ([.fieldLink RX9 86 "HeapMoverModel" "places" "I", .fieldLink RX9 49 "HeapMoverModel" "heights" "[I", .constant RX9 115 (1000000000), .fieldLink RX9 37 "HeapMoverModel" "far" "[I", .fieldLink RX9 40 "HeapMoverModel" "flow" "[I"] ++ wsX90)
def wsX9_isTight : List Cond := .code yX9_isTight cX9_isTight 3 (some .boolean) :: ([.fieldLink RX9 49 "HeapMoverModel" "heights" "[I", .fieldLink RX9 37 "HeapMoverModel" "far" "[I"] ++ wsX90)
def wsX9_canTurn : List Cond := .code yX9_canTurn cX9_canTurn 10 (some .boolean) :: ([.fieldLink RX9 62 "HeapMoverModel" "isSeen" "[Z", .fieldLink RX9 55 "HeapMoverModel" "came" "[I", .fieldLink RX9 65 "HeapMoverModel" "queue" "[I", .fieldLink RX9 86 "HeapMoverModel" "places" "I", .fieldLink RX9 58 "HeapMoverModel" "isFixed" "[Z", .fieldLink RX9 40 "HeapMoverModel" "flow" "[I", .methodLink RX9 153 yX9_isTight, .instanceMethod yX9_isTight, .selects RX9 yX9_isTight yX9_isTight, .initialized RX9, .code yX9_isTight cX9_isTight 3 (some .boolean), .fieldLink RX9 49 "HeapMoverModel" "heights" "[I", .fieldLink RX9 37 "HeapMoverModel" "far" "[I"] ++ wsX90)
def wsX9_turn : List Cond := .code yX9_turn cX9_turn 6 none :: ([.constant RX9 115 (1000000000), .fieldLink RX9 40 "HeapMoverModel" "flow" "[I", .fieldLink RX9 55 "HeapMoverModel" "came" "[I"] ++ wsX90)
def wsX9_loosen : List Cond := .code yX9_loosen cX9_loosen 2 none :: ([.fieldLink RX9 58 "HeapMoverModel" "isFixed" "[Z"] ++ wsX90)
def wsX9_findPlan_r1 : List Cond := [Cond.fieldLink RX9 86 "HeapMoverModel" "places" "I", Cond.fieldLink RX9 58 "HeapMoverModel" "isFixed" "[Z", Cond.methodLink RX9 123 yX9_sumOf, Cond.instanceMethod yX9_sumOf, Cond.selects RX9 yX9_sumOf yX9_sumOf, Cond.initialized RX9, Cond.code yX9_sumOf cX9_sumOf 4 (some .int), Cond.fieldLink RX9 19 "HeapMoverModel" "amounts" "[I", Cond.methodLink RX9 149 yX9_solve, Cond.instanceMethod yX9_solve, Cond.selects RX9 yX9_solve yX9_solve, Cond.code yX9_solve cX9_solve 6 (some .int), Cond.fieldLink RX9 40 "HeapMoverModel" "flow" "[I", Cond.methodLink RX9 127 yX9_begin, Cond.instanceMethod yX9_begin, Cond.selects RX9 yX9_begin yX9_begin, Cond.code yX9_begin cX9_begin 4 none, Cond.fieldLink RX9 43 "HeapMoverModel" "supply" "[I", Cond.fieldLink RX9 46 "HeapMoverModel" "demand" "[I", Cond.methodLink RX9 131 yX9_findWay, Cond.instanceMethod yX9_findWay, Cond.selects RX9 yX9_findWay yX9_findWay, Cond.code yX9_findWay cX9_findWay 5 (some .int), Cond.fieldLink RX9 52 "HeapMoverModel" "dear" "[I"]
def wsX9_findPlan_r2 : List Cond := [Cond.constant RX9 115 (1000000000), Cond.fieldLink RX9 55 "HeapMoverModel" "came" "[I", Cond.fieldLink RX9 37 "HeapMoverModel" "far" "[I", Cond.methodLink RX9 135 yX9_go, Cond.instanceMethod yX9_go, Cond.selects RX9 yX9_go yX9_go, Cond.code yX9_go cX9_go 6 (some .int), Cond.methodLink RX9 138 yX9_costOf, Cond.instanceMethod yX9_costOf, Cond.selects RX9 yX9_costOf yX9_costOf, Cond.code yX9_costOf cX9_costOf 5 (some .int), Cond.methodLink RX9 157 yX9_findHeights, Cond.instanceMethod yX9_findHeights, Cond.selects RX9 yX9_findHeights yX9_findHeights, Cond.code yX9_findHeights cX9_findHeights 5 none, Cond.fieldLink RX9 49 "HeapMoverModel" "heights" "[I", Cond.methodLink RX9 160 yX9_loosen, Cond.instanceMethod yX9_loosen, Cond.selects RX9 yX9_loosen yX9_loosen, Cond.code yX9_loosen cX9_loosen 2 none, Cond.methodLink RX9 153 yX9_isTight, Cond.instanceMethod yX9_isTight, Cond.selects RX9 yX9_isTight yX9_isTight, Cond.code yX9_isTight cX9_isTight 3 (some .boolean)]
def wsX9_findPlan_r3 : List Cond := [Cond.methodLink RX9 163 yX9_canTurn, Cond.instanceMethod yX9_canTurn, Cond.selects RX9 yX9_canTurn yX9_canTurn, Cond.code yX9_canTurn cX9_canTurn 10 (some .boolean), Cond.fieldLink RX9 62 "HeapMoverModel" "isSeen" "[Z", Cond.fieldLink RX9 65 "HeapMoverModel" "queue" "[I", Cond.methodLink RX9 166 yX9_turn, Cond.instanceMethod yX9_turn, Cond.selects RX9 yX9_turn yX9_turn, Cond.code yX9_turn cX9_turn 6 none]
def wsX9_findPlan : List Cond := .code yX9_findPlan cX9_findPlan 6 none :: ((wsX9_findPlan_r1 ++ (wsX9_findPlan_r2 ++ wsX9_findPlan_r3)) ++ wsX90)
def wsX9_plan_r1 : List Cond := [Cond.fieldLink RX9 40 "HeapMoverModel" "flow" "[I", Cond.methodLink RX9 111 yX9_isHeap, Cond.instanceMethod yX9_isHeap, Cond.selects RX9 yX9_isHeap yX9_isHeap, Cond.initialized RX9, Cond.code yX9_isHeap cX9_isHeap 2 (some .boolean), Cond.fieldLink RX9 94 "HeapMoverModel" "heaps" "I", Cond.methodLink RX9 90 yX9_in, Cond.static yX9_in, Cond.code yX9_in cX9_in 3 (some .boolean), Cond.methodLink RX9 104 yX9_isPlace, Cond.instanceMethod yX9_isPlace, Cond.selects RX9 yX9_isPlace yX9_isPlace, Cond.code yX9_isPlace cX9_isPlace 2 (some .boolean), Cond.fieldLink RX9 86 "HeapMoverModel" "places" "I", Cond.methodLink RX9 146 yX9_against, Cond.instanceMethod yX9_against, Cond.selects RX9 yX9_against yX9_against, Cond.code yX9_against cX9_against 3 (some .int), Cond.methodLink RX9 142 yX9_isJoined, Cond.instanceMethod yX9_isJoined, Cond.selects RX9 yX9_isJoined yX9_isJoined, Cond.code yX9_isJoined cX9_isJoined 3 (some .boolean), Cond.fieldLink RX9 37 "HeapMoverModel" "far" "[I"]
def wsX9_plan_r2 : List Cond := [Cond.constant RX9 115 (1000000000), Cond.methodLink RX9 116 yX9_findFar, Cond.instanceMethod yX9_findFar, Cond.selects RX9 yX9_findFar yX9_findFar, Cond.code yX9_findFar cX9_findFar 5 none, Cond.fieldLink RX9 108 "HeapMoverModel" "roads" "I", Cond.fieldLink RX9 7 "HeapMoverModel" "roadU" "[I", Cond.fieldLink RX9 13 "HeapMoverModel" "roadV" "[I", Cond.fieldLink RX9 16 "HeapMoverModel" "roadLength" "[I", Cond.methodLink RX9 123 yX9_sumOf, Cond.instanceMethod yX9_sumOf, Cond.selects RX9 yX9_sumOf yX9_sumOf, Cond.code yX9_sumOf cX9_sumOf 4 (some .int), Cond.fieldLink RX9 19 "HeapMoverModel" "amounts" "[I", Cond.methodLink RX9 169 yX9_findPlan, Cond.instanceMethod yX9_findPlan, Cond.selects RX9 yX9_findPlan yX9_findPlan, Cond.code yX9_findPlan cX9_findPlan 6 none, Cond.fieldLink RX9 58 "HeapMoverModel" "isFixed" "[Z", Cond.methodLink RX9 149 yX9_solve, Cond.instanceMethod yX9_solve, Cond.selects RX9 yX9_solve yX9_solve, Cond.code yX9_solve cX9_solve 6 (some .int), Cond.methodLink RX9 127 yX9_begin]
def wsX9_plan_r3 : List Cond := [Cond.instanceMethod yX9_begin, Cond.selects RX9 yX9_begin yX9_begin, Cond.code yX9_begin cX9_begin 4 none, Cond.fieldLink RX9 43 "HeapMoverModel" "supply" "[I", Cond.fieldLink RX9 46 "HeapMoverModel" "demand" "[I", Cond.methodLink RX9 131 yX9_findWay, Cond.instanceMethod yX9_findWay, Cond.selects RX9 yX9_findWay yX9_findWay, Cond.code yX9_findWay cX9_findWay 5 (some .int), Cond.fieldLink RX9 52 "HeapMoverModel" "dear" "[I", Cond.fieldLink RX9 55 "HeapMoverModel" "came" "[I", Cond.methodLink RX9 135 yX9_go, Cond.instanceMethod yX9_go, Cond.selects RX9 yX9_go yX9_go, Cond.code yX9_go cX9_go 6 (some .int), Cond.methodLink RX9 138 yX9_costOf, Cond.instanceMethod yX9_costOf, Cond.selects RX9 yX9_costOf yX9_costOf, Cond.code yX9_costOf cX9_costOf 5 (some .int), Cond.methodLink RX9 157 yX9_findHeights, Cond.instanceMethod yX9_findHeights, Cond.selects RX9 yX9_findHeights yX9_findHeights, Cond.code yX9_findHeights cX9_findHeights 5 none, Cond.fieldLink RX9 49 "HeapMoverModel" "heights" "[I"]
def wsX9_plan_r4 : List Cond := [Cond.methodLink RX9 160 yX9_loosen, Cond.instanceMethod yX9_loosen, Cond.selects RX9 yX9_loosen yX9_loosen, Cond.code yX9_loosen cX9_loosen 2 none, Cond.methodLink RX9 153 yX9_isTight, Cond.instanceMethod yX9_isTight, Cond.selects RX9 yX9_isTight yX9_isTight, Cond.code yX9_isTight cX9_isTight 3 (some .boolean), Cond.methodLink RX9 163 yX9_canTurn, Cond.instanceMethod yX9_canTurn, Cond.selects RX9 yX9_canTurn yX9_canTurn, Cond.code yX9_canTurn cX9_canTurn 10 (some .boolean), Cond.fieldLink RX9 62 "HeapMoverModel" "isSeen" "[Z", Cond.fieldLink RX9 65 "HeapMoverModel" "queue" "[I", Cond.methodLink RX9 166 yX9_turn, Cond.instanceMethod yX9_turn, Cond.selects RX9 yX9_turn yX9_turn, Cond.code yX9_turn cX9_turn 6 none]
def wsX9_plan : List Cond := .code yX9_plan cX9_plan 6 (some .int) :: ((wsX9_plan_r1 ++ (wsX9_plan_r2 ++ (wsX9_plan_r3 ++ wsX9_plan_r4))) ++ wsX90)
def wsX9_alone_r1 : List Cond := [Cond.fieldLink RX9 86 "HeapMoverModel" "places" "I", Cond.methodLink RX9 146 yX9_against, Cond.instanceMethod yX9_against, Cond.selects RX9 yX9_against yX9_against, Cond.initialized RX9, Cond.code yX9_against cX9_against 3 (some .int), Cond.methodLink RX9 111 yX9_isHeap, Cond.instanceMethod yX9_isHeap, Cond.selects RX9 yX9_isHeap yX9_isHeap, Cond.code yX9_isHeap cX9_isHeap 2 (some .boolean), Cond.fieldLink RX9 94 "HeapMoverModel" "heaps" "I", Cond.methodLink RX9 90 yX9_in, Cond.static yX9_in, Cond.code yX9_in cX9_in 3 (some .boolean), Cond.methodLink RX9 142 yX9_isJoined, Cond.instanceMethod yX9_isJoined, Cond.selects RX9 yX9_isJoined yX9_isJoined, Cond.code yX9_isJoined cX9_isJoined 3 (some .boolean), Cond.fieldLink RX9 37 "HeapMoverModel" "far" "[I", Cond.constant RX9 115 (1000000000), Cond.methodLink RX9 116 yX9_findFar, Cond.instanceMethod yX9_findFar, Cond.selects RX9 yX9_findFar yX9_findFar, Cond.code yX9_findFar cX9_findFar 5 none]
def wsX9_alone_r2 : List Cond := [Cond.fieldLink RX9 108 "HeapMoverModel" "roads" "I", Cond.fieldLink RX9 7 "HeapMoverModel" "roadU" "[I", Cond.fieldLink RX9 13 "HeapMoverModel" "roadV" "[I", Cond.fieldLink RX9 16 "HeapMoverModel" "roadLength" "[I", Cond.methodLink RX9 123 yX9_sumOf, Cond.instanceMethod yX9_sumOf, Cond.selects RX9 yX9_sumOf yX9_sumOf, Cond.code yX9_sumOf cX9_sumOf 4 (some .int), Cond.fieldLink RX9 19 "HeapMoverModel" "amounts" "[I", Cond.methodLink RX9 169 yX9_findPlan, Cond.instanceMethod yX9_findPlan, Cond.selects RX9 yX9_findPlan yX9_findPlan, Cond.code yX9_findPlan cX9_findPlan 6 none, Cond.fieldLink RX9 58 "HeapMoverModel" "isFixed" "[Z", Cond.methodLink RX9 149 yX9_solve, Cond.instanceMethod yX9_solve, Cond.selects RX9 yX9_solve yX9_solve, Cond.code yX9_solve cX9_solve 6 (some .int), Cond.fieldLink RX9 40 "HeapMoverModel" "flow" "[I", Cond.methodLink RX9 127 yX9_begin, Cond.instanceMethod yX9_begin, Cond.selects RX9 yX9_begin yX9_begin, Cond.code yX9_begin cX9_begin 4 none, Cond.fieldLink RX9 43 "HeapMoverModel" "supply" "[I"]
def wsX9_alone_r3 : List Cond := [Cond.fieldLink RX9 46 "HeapMoverModel" "demand" "[I", Cond.methodLink RX9 131 yX9_findWay, Cond.instanceMethod yX9_findWay, Cond.selects RX9 yX9_findWay yX9_findWay, Cond.code yX9_findWay cX9_findWay 5 (some .int), Cond.fieldLink RX9 52 "HeapMoverModel" "dear" "[I", Cond.fieldLink RX9 55 "HeapMoverModel" "came" "[I", Cond.methodLink RX9 135 yX9_go, Cond.instanceMethod yX9_go, Cond.selects RX9 yX9_go yX9_go, Cond.code yX9_go cX9_go 6 (some .int), Cond.methodLink RX9 138 yX9_costOf, Cond.instanceMethod yX9_costOf, Cond.selects RX9 yX9_costOf yX9_costOf, Cond.code yX9_costOf cX9_costOf 5 (some .int), Cond.methodLink RX9 157 yX9_findHeights, Cond.instanceMethod yX9_findHeights, Cond.selects RX9 yX9_findHeights yX9_findHeights, Cond.code yX9_findHeights cX9_findHeights 5 none, Cond.fieldLink RX9 49 "HeapMoverModel" "heights" "[I", Cond.methodLink RX9 160 yX9_loosen, Cond.instanceMethod yX9_loosen, Cond.selects RX9 yX9_loosen yX9_loosen, Cond.code yX9_loosen cX9_loosen 2 none]
def wsX9_alone_r4 : List Cond := [Cond.methodLink RX9 153 yX9_isTight, Cond.instanceMethod yX9_isTight, Cond.selects RX9 yX9_isTight yX9_isTight, Cond.code yX9_isTight cX9_isTight 3 (some .boolean), Cond.methodLink RX9 163 yX9_canTurn, Cond.instanceMethod yX9_canTurn, Cond.selects RX9 yX9_canTurn yX9_canTurn, Cond.code yX9_canTurn cX9_canTurn 10 (some .boolean), Cond.fieldLink RX9 62 "HeapMoverModel" "isSeen" "[Z", Cond.fieldLink RX9 65 "HeapMoverModel" "queue" "[I", Cond.methodLink RX9 166 yX9_turn, Cond.instanceMethod yX9_turn, Cond.selects RX9 yX9_turn yX9_turn, Cond.code yX9_turn cX9_turn 6 none]
def wsX9_alone : List Cond := .code yX9_alone cX9_alone 6 (some .int) :: ((wsX9_alone_r1 ++ (wsX9_alone_r2 ++ (wsX9_alone_r3 ++ wsX9_alone_r4))) ++ wsX90)
def wsX9_height_r1 : List Cond := [Cond.constant RX9 172 (-2147483648), Cond.fieldLink RX9 49 "HeapMoverModel" "heights" "[I", Cond.methodLink RX9 104 yX9_isPlace, Cond.instanceMethod yX9_isPlace, Cond.selects RX9 yX9_isPlace yX9_isPlace, Cond.initialized RX9, Cond.code yX9_isPlace cX9_isPlace 2 (some .boolean), Cond.fieldLink RX9 86 "HeapMoverModel" "places" "I", Cond.methodLink RX9 90 yX9_in, Cond.static yX9_in, Cond.code yX9_in cX9_in 3 (some .boolean), Cond.methodLink RX9 146 yX9_against, Cond.instanceMethod yX9_against, Cond.selects RX9 yX9_against yX9_against, Cond.code yX9_against cX9_against 3 (some .int), Cond.methodLink RX9 111 yX9_isHeap, Cond.instanceMethod yX9_isHeap, Cond.selects RX9 yX9_isHeap yX9_isHeap, Cond.code yX9_isHeap cX9_isHeap 2 (some .boolean), Cond.fieldLink RX9 94 "HeapMoverModel" "heaps" "I", Cond.methodLink RX9 142 yX9_isJoined, Cond.instanceMethod yX9_isJoined, Cond.selects RX9 yX9_isJoined yX9_isJoined, Cond.code yX9_isJoined cX9_isJoined 3 (some .boolean)]
def wsX9_height_r2 : List Cond := [Cond.fieldLink RX9 37 "HeapMoverModel" "far" "[I", Cond.constant RX9 115 (1000000000), Cond.methodLink RX9 116 yX9_findFar, Cond.instanceMethod yX9_findFar, Cond.selects RX9 yX9_findFar yX9_findFar, Cond.code yX9_findFar cX9_findFar 5 none, Cond.fieldLink RX9 108 "HeapMoverModel" "roads" "I", Cond.fieldLink RX9 7 "HeapMoverModel" "roadU" "[I", Cond.fieldLink RX9 13 "HeapMoverModel" "roadV" "[I", Cond.fieldLink RX9 16 "HeapMoverModel" "roadLength" "[I", Cond.methodLink RX9 123 yX9_sumOf, Cond.instanceMethod yX9_sumOf, Cond.selects RX9 yX9_sumOf yX9_sumOf, Cond.code yX9_sumOf cX9_sumOf 4 (some .int), Cond.fieldLink RX9 19 "HeapMoverModel" "amounts" "[I", Cond.methodLink RX9 149 yX9_solve, Cond.instanceMethod yX9_solve, Cond.selects RX9 yX9_solve yX9_solve, Cond.code yX9_solve cX9_solve 6 (some .int), Cond.fieldLink RX9 40 "HeapMoverModel" "flow" "[I", Cond.methodLink RX9 127 yX9_begin, Cond.instanceMethod yX9_begin, Cond.selects RX9 yX9_begin yX9_begin, Cond.code yX9_begin cX9_begin 4 none]
def wsX9_height_r3 : List Cond := [Cond.fieldLink RX9 43 "HeapMoverModel" "supply" "[I", Cond.fieldLink RX9 46 "HeapMoverModel" "demand" "[I", Cond.methodLink RX9 131 yX9_findWay, Cond.instanceMethod yX9_findWay, Cond.selects RX9 yX9_findWay yX9_findWay, Cond.code yX9_findWay cX9_findWay 5 (some .int), Cond.fieldLink RX9 52 "HeapMoverModel" "dear" "[I", Cond.fieldLink RX9 55 "HeapMoverModel" "came" "[I", Cond.methodLink RX9 135 yX9_go, Cond.instanceMethod yX9_go, Cond.selects RX9 yX9_go yX9_go, Cond.code yX9_go cX9_go 6 (some .int), Cond.methodLink RX9 138 yX9_costOf, Cond.instanceMethod yX9_costOf, Cond.selects RX9 yX9_costOf yX9_costOf, Cond.code yX9_costOf cX9_costOf 5 (some .int), Cond.methodLink RX9 157 yX9_findHeights, Cond.instanceMethod yX9_findHeights, Cond.selects RX9 yX9_findHeights yX9_findHeights, Cond.code yX9_findHeights cX9_findHeights 5 none]
def wsX9_height : List Cond := .code yX9_height cX9_height 5 (some .int) :: ((wsX9_height_r1 ++ (wsX9_height_r2 ++ wsX9_height_r3)) ++ wsX90)
def wsX9_load_r1 : List Cond := [Cond.fieldLink RX9 86 "HeapMoverModel" "places" "I", Cond.fieldLink RX9 40 "HeapMoverModel" "flow" "[I", Cond.methodLink RX9 111 yX9_isHeap, Cond.instanceMethod yX9_isHeap, Cond.selects RX9 yX9_isHeap yX9_isHeap, Cond.initialized RX9, Cond.code yX9_isHeap cX9_isHeap 2 (some .boolean), Cond.fieldLink RX9 94 "HeapMoverModel" "heaps" "I", Cond.methodLink RX9 90 yX9_in, Cond.static yX9_in, Cond.code yX9_in cX9_in 3 (some .boolean), Cond.methodLink RX9 104 yX9_isPlace, Cond.instanceMethod yX9_isPlace, Cond.selects RX9 yX9_isPlace yX9_isPlace, Cond.code yX9_isPlace cX9_isPlace 2 (some .boolean), Cond.methodLink RX9 146 yX9_against, Cond.instanceMethod yX9_against, Cond.selects RX9 yX9_against yX9_against, Cond.code yX9_against cX9_against 3 (some .int), Cond.methodLink RX9 142 yX9_isJoined, Cond.instanceMethod yX9_isJoined, Cond.selects RX9 yX9_isJoined yX9_isJoined, Cond.code yX9_isJoined cX9_isJoined 3 (some .boolean), Cond.fieldLink RX9 37 "HeapMoverModel" "far" "[I"]
def wsX9_load_r2 : List Cond := [Cond.constant RX9 115 (1000000000), Cond.methodLink RX9 116 yX9_findFar, Cond.instanceMethod yX9_findFar, Cond.selects RX9 yX9_findFar yX9_findFar, Cond.code yX9_findFar cX9_findFar 5 none, Cond.fieldLink RX9 108 "HeapMoverModel" "roads" "I", Cond.fieldLink RX9 7 "HeapMoverModel" "roadU" "[I", Cond.fieldLink RX9 13 "HeapMoverModel" "roadV" "[I", Cond.fieldLink RX9 16 "HeapMoverModel" "roadLength" "[I", Cond.methodLink RX9 123 yX9_sumOf, Cond.instanceMethod yX9_sumOf, Cond.selects RX9 yX9_sumOf yX9_sumOf, Cond.code yX9_sumOf cX9_sumOf 4 (some .int), Cond.fieldLink RX9 19 "HeapMoverModel" "amounts" "[I", Cond.methodLink RX9 169 yX9_findPlan, Cond.instanceMethod yX9_findPlan, Cond.selects RX9 yX9_findPlan yX9_findPlan, Cond.code yX9_findPlan cX9_findPlan 6 none, Cond.fieldLink RX9 58 "HeapMoverModel" "isFixed" "[Z", Cond.methodLink RX9 149 yX9_solve, Cond.instanceMethod yX9_solve, Cond.selects RX9 yX9_solve yX9_solve, Cond.code yX9_solve cX9_solve 6 (some .int), Cond.methodLink RX9 127 yX9_begin]
def wsX9_load_r3 : List Cond := [Cond.instanceMethod yX9_begin, Cond.selects RX9 yX9_begin yX9_begin, Cond.code yX9_begin cX9_begin 4 none, Cond.fieldLink RX9 43 "HeapMoverModel" "supply" "[I", Cond.fieldLink RX9 46 "HeapMoverModel" "demand" "[I", Cond.methodLink RX9 131 yX9_findWay, Cond.instanceMethod yX9_findWay, Cond.selects RX9 yX9_findWay yX9_findWay, Cond.code yX9_findWay cX9_findWay 5 (some .int), Cond.fieldLink RX9 52 "HeapMoverModel" "dear" "[I", Cond.fieldLink RX9 55 "HeapMoverModel" "came" "[I", Cond.methodLink RX9 135 yX9_go, Cond.instanceMethod yX9_go, Cond.selects RX9 yX9_go yX9_go, Cond.code yX9_go cX9_go 6 (some .int), Cond.methodLink RX9 138 yX9_costOf, Cond.instanceMethod yX9_costOf, Cond.selects RX9 yX9_costOf yX9_costOf, Cond.code yX9_costOf cX9_costOf 5 (some .int), Cond.methodLink RX9 157 yX9_findHeights, Cond.instanceMethod yX9_findHeights, Cond.selects RX9 yX9_findHeights yX9_findHeights, Cond.code yX9_findHeights cX9_findHeights 5 none, Cond.fieldLink RX9 49 "HeapMoverModel" "heights" "[I"]
def wsX9_load_r4 : List Cond := [Cond.methodLink RX9 160 yX9_loosen, Cond.instanceMethod yX9_loosen, Cond.selects RX9 yX9_loosen yX9_loosen, Cond.code yX9_loosen cX9_loosen 2 none, Cond.methodLink RX9 153 yX9_isTight, Cond.instanceMethod yX9_isTight, Cond.selects RX9 yX9_isTight yX9_isTight, Cond.code yX9_isTight cX9_isTight 3 (some .boolean), Cond.methodLink RX9 163 yX9_canTurn, Cond.instanceMethod yX9_canTurn, Cond.selects RX9 yX9_canTurn yX9_canTurn, Cond.code yX9_canTurn cX9_canTurn 10 (some .boolean), Cond.fieldLink RX9 62 "HeapMoverModel" "isSeen" "[Z", Cond.fieldLink RX9 65 "HeapMoverModel" "queue" "[I", Cond.methodLink RX9 166 yX9_turn, Cond.instanceMethod yX9_turn, Cond.selects RX9 yX9_turn yX9_turn, Cond.code yX9_turn cX9_turn 6 none, Cond.methodLink RX9 119 yX9_nextTo, Cond.instanceMethod yX9_nextTo, Cond.selects RX9 yX9_nextTo yX9_nextTo, Cond.code yX9_nextTo cX9_nextTo 7 (some .int)]
def wsX9_load : List Cond := .code yX9_load cX9_load 11 (some .int) :: ((wsX9_load_r1 ++ (wsX9_load_r2 ++ (wsX9_load_r3 ++ wsX9_load_r4))) ++ wsX90)
def wsX9_reach : List Cond := .code yX9_reach cX9_reach 8 (some .int) :: ([.fieldLink RX9 86 "HeapMoverModel" "places" "I", .fieldLink RX9 62 "HeapMoverModel" "isSeen" "[Z", .fieldLink RX9 43 "HeapMoverModel" "supply" "[I", .fieldLink RX9 55 "HeapMoverModel" "came" "[I", .fieldLink RX9 65 "HeapMoverModel" "queue" "[I", .fieldLink RX9 37 "HeapMoverModel" "far" "[I", .fieldLink RX9 40 "HeapMoverModel" "flow" "[I", .fieldLink RX9 46 "HeapMoverModel" "demand" "[I"] ++ wsX90)
def wsX9_fits : List Cond := .code yX9_fits cX9_fits 7 (some .boolean) :: ([.constant RX9 115 (1000000000), .fieldLink RX9 86 "HeapMoverModel" "places" "I", .fieldLink RX9 43 "HeapMoverModel" "supply" "[I", .methodLink RX9 127 yX9_begin, .instanceMethod yX9_begin, .selects RX9 yX9_begin yX9_begin, .initialized RX9, .code yX9_begin cX9_begin 4 none, .fieldLink RX9 40 "HeapMoverModel" "flow" "[I", .fieldLink RX9 19 "HeapMoverModel" "amounts" "[I", .fieldLink RX9 46 "HeapMoverModel" "demand" "[I", .methodLink RX9 173 yX9_reach, .instanceMethod yX9_reach, .selects RX9 yX9_reach yX9_reach, .code yX9_reach cX9_reach 8 (some .int), .fieldLink RX9 62 "HeapMoverModel" "isSeen" "[Z", .fieldLink RX9 55 "HeapMoverModel" "came" "[I", .fieldLink RX9 65 "HeapMoverModel" "queue" "[I", .fieldLink RX9 37 "HeapMoverModel" "far" "[I", .methodLink RX9 135 yX9_go, .instanceMethod yX9_go, .selects RX9 yX9_go yX9_go, .code yX9_go cX9_go 6 (some .int)] ++ wsX90)
def wsX9_findFarthest_r1 : List Cond := [Cond.constant RX9 115 (1000000000), Cond.fieldLink RX9 86 "HeapMoverModel" "places" "I", Cond.fieldLink RX9 37 "HeapMoverModel" "far" "[I", Cond.methodLink RX9 176 yX9_fits, Cond.instanceMethod yX9_fits, Cond.selects RX9 yX9_fits yX9_fits, Cond.initialized RX9, Cond.code yX9_fits cX9_fits 7 (some .boolean), Cond.fieldLink RX9 43 "HeapMoverModel" "supply" "[I", Cond.methodLink RX9 127 yX9_begin, Cond.instanceMethod yX9_begin, Cond.selects RX9 yX9_begin yX9_begin, Cond.code yX9_begin cX9_begin 4 none, Cond.fieldLink RX9 40 "HeapMoverModel" "flow" "[I", Cond.fieldLink RX9 19 "HeapMoverModel" "amounts" "[I", Cond.fieldLink RX9 46 "HeapMoverModel" "demand" "[I", Cond.methodLink RX9 173 yX9_reach, Cond.instanceMethod yX9_reach, Cond.selects RX9 yX9_reach yX9_reach, Cond.code yX9_reach cX9_reach 8 (some .int), Cond.fieldLink RX9 62 "HeapMoverModel" "isSeen" "[Z", Cond.fieldLink RX9 55 "HeapMoverModel" "came" "[I", Cond.fieldLink RX9 65 "HeapMoverModel" "queue" "[I", Cond.methodLink RX9 135 yX9_go]
def wsX9_findFarthest_r2 : List Cond := [Cond.instanceMethod yX9_go, Cond.selects RX9 yX9_go yX9_go, Cond.code yX9_go cX9_go 6 (some .int)]
def wsX9_findFarthest : List Cond := .code yX9_findFarthest cX9_findFarthest 8 (some .int) :: ((wsX9_findFarthest_r1 ++ wsX9_findFarthest_r2) ++ wsX90)
def wsX9_far_r1 : List Cond := [Cond.methodLink RX9 146 yX9_against, Cond.instanceMethod yX9_against, Cond.selects RX9 yX9_against yX9_against, Cond.initialized RX9, Cond.code yX9_against cX9_against 3 (some .int), Cond.methodLink RX9 111 yX9_isHeap, Cond.instanceMethod yX9_isHeap, Cond.selects RX9 yX9_isHeap yX9_isHeap, Cond.code yX9_isHeap cX9_isHeap 2 (some .boolean), Cond.fieldLink RX9 94 "HeapMoverModel" "heaps" "I", Cond.methodLink RX9 90 yX9_in, Cond.static yX9_in, Cond.code yX9_in cX9_in 3 (some .boolean), Cond.methodLink RX9 142 yX9_isJoined, Cond.instanceMethod yX9_isJoined, Cond.selects RX9 yX9_isJoined yX9_isJoined, Cond.code yX9_isJoined cX9_isJoined 3 (some .boolean), Cond.fieldLink RX9 86 "HeapMoverModel" "places" "I", Cond.fieldLink RX9 37 "HeapMoverModel" "far" "[I", Cond.constant RX9 115 (1000000000), Cond.methodLink RX9 116 yX9_findFar, Cond.instanceMethod yX9_findFar, Cond.selects RX9 yX9_findFar yX9_findFar, Cond.code yX9_findFar cX9_findFar 5 none]
def wsX9_far_r2 : List Cond := [Cond.fieldLink RX9 108 "HeapMoverModel" "roads" "I", Cond.fieldLink RX9 7 "HeapMoverModel" "roadU" "[I", Cond.fieldLink RX9 13 "HeapMoverModel" "roadV" "[I", Cond.fieldLink RX9 16 "HeapMoverModel" "roadLength" "[I", Cond.methodLink RX9 123 yX9_sumOf, Cond.instanceMethod yX9_sumOf, Cond.selects RX9 yX9_sumOf yX9_sumOf, Cond.code yX9_sumOf cX9_sumOf 4 (some .int), Cond.fieldLink RX9 19 "HeapMoverModel" "amounts" "[I", Cond.methodLink RX9 179 yX9_findFarthest, Cond.instanceMethod yX9_findFarthest, Cond.selects RX9 yX9_findFarthest yX9_findFarthest, Cond.code yX9_findFarthest cX9_findFarthest 8 (some .int), Cond.methodLink RX9 176 yX9_fits, Cond.instanceMethod yX9_fits, Cond.selects RX9 yX9_fits yX9_fits, Cond.code yX9_fits cX9_fits 7 (some .boolean), Cond.fieldLink RX9 43 "HeapMoverModel" "supply" "[I", Cond.methodLink RX9 127 yX9_begin, Cond.instanceMethod yX9_begin, Cond.selects RX9 yX9_begin yX9_begin, Cond.code yX9_begin cX9_begin 4 none, Cond.fieldLink RX9 40 "HeapMoverModel" "flow" "[I", Cond.fieldLink RX9 46 "HeapMoverModel" "demand" "[I"]
def wsX9_far_r3 : List Cond := [Cond.methodLink RX9 173 yX9_reach, Cond.instanceMethod yX9_reach, Cond.selects RX9 yX9_reach yX9_reach, Cond.code yX9_reach cX9_reach 8 (some .int), Cond.fieldLink RX9 62 "HeapMoverModel" "isSeen" "[Z", Cond.fieldLink RX9 55 "HeapMoverModel" "came" "[I", Cond.fieldLink RX9 65 "HeapMoverModel" "queue" "[I", Cond.methodLink RX9 135 yX9_go, Cond.instanceMethod yX9_go, Cond.selects RX9 yX9_go yX9_go, Cond.code yX9_go cX9_go 6 (some .int)]
def wsX9_far : List Cond := .code yX9_far cX9_far 4 (some .int) :: ((wsX9_far_r1 ++ (wsX9_far_r2 ++ wsX9_far_r3)) ++ wsX90)
def wsX9_shown_r1 : List Cond := [Cond.fieldLink RX9 62 "HeapMoverModel" "isSeen" "[Z", Cond.methodLink RX9 111 yX9_isHeap, Cond.instanceMethod yX9_isHeap, Cond.selects RX9 yX9_isHeap yX9_isHeap, Cond.initialized RX9, Cond.code yX9_isHeap cX9_isHeap 2 (some .boolean), Cond.fieldLink RX9 94 "HeapMoverModel" "heaps" "I", Cond.methodLink RX9 90 yX9_in, Cond.static yX9_in, Cond.code yX9_in cX9_in 3 (some .boolean), Cond.methodLink RX9 104 yX9_isPlace, Cond.instanceMethod yX9_isPlace, Cond.selects RX9 yX9_isPlace yX9_isPlace, Cond.code yX9_isPlace cX9_isPlace 2 (some .boolean), Cond.fieldLink RX9 86 "HeapMoverModel" "places" "I", Cond.methodLink RX9 146 yX9_against, Cond.instanceMethod yX9_against, Cond.selects RX9 yX9_against yX9_against, Cond.code yX9_against cX9_against 3 (some .int), Cond.methodLink RX9 142 yX9_isJoined, Cond.instanceMethod yX9_isJoined, Cond.selects RX9 yX9_isJoined yX9_isJoined, Cond.code yX9_isJoined cX9_isJoined 3 (some .boolean), Cond.fieldLink RX9 37 "HeapMoverModel" "far" "[I"]
def wsX9_shown_r2 : List Cond := [Cond.constant RX9 115 (1000000000), Cond.methodLink RX9 116 yX9_findFar, Cond.instanceMethod yX9_findFar, Cond.selects RX9 yX9_findFar yX9_findFar, Cond.code yX9_findFar cX9_findFar 5 none, Cond.fieldLink RX9 108 "HeapMoverModel" "roads" "I", Cond.fieldLink RX9 7 "HeapMoverModel" "roadU" "[I", Cond.fieldLink RX9 13 "HeapMoverModel" "roadV" "[I", Cond.fieldLink RX9 16 "HeapMoverModel" "roadLength" "[I", Cond.methodLink RX9 123 yX9_sumOf, Cond.instanceMethod yX9_sumOf, Cond.selects RX9 yX9_sumOf yX9_sumOf, Cond.code yX9_sumOf cX9_sumOf 4 (some .int), Cond.fieldLink RX9 19 "HeapMoverModel" "amounts" "[I", Cond.methodLink RX9 179 yX9_findFarthest, Cond.instanceMethod yX9_findFarthest, Cond.selects RX9 yX9_findFarthest yX9_findFarthest, Cond.code yX9_findFarthest cX9_findFarthest 8 (some .int), Cond.methodLink RX9 176 yX9_fits, Cond.instanceMethod yX9_fits, Cond.selects RX9 yX9_fits yX9_fits, Cond.code yX9_fits cX9_fits 7 (some .boolean), Cond.fieldLink RX9 43 "HeapMoverModel" "supply" "[I", Cond.methodLink RX9 127 yX9_begin]
def wsX9_shown_r3 : List Cond := [Cond.instanceMethod yX9_begin, Cond.selects RX9 yX9_begin yX9_begin, Cond.code yX9_begin cX9_begin 4 none, Cond.fieldLink RX9 40 "HeapMoverModel" "flow" "[I", Cond.fieldLink RX9 46 "HeapMoverModel" "demand" "[I", Cond.methodLink RX9 173 yX9_reach, Cond.instanceMethod yX9_reach, Cond.selects RX9 yX9_reach yX9_reach, Cond.code yX9_reach cX9_reach 8 (some .int), Cond.fieldLink RX9 55 "HeapMoverModel" "came" "[I", Cond.fieldLink RX9 65 "HeapMoverModel" "queue" "[I", Cond.methodLink RX9 135 yX9_go, Cond.instanceMethod yX9_go, Cond.selects RX9 yX9_go yX9_go, Cond.code yX9_go cX9_go 6 (some .int)]
def wsX9_shown : List Cond := .code yX9_shown cX9_shown 7 (some .int) :: ((wsX9_shown_r1 ++ (wsX9_shown_r2 ++ wsX9_shown_r3)) ++ wsX90)
def wsX9_some_r1 : List Cond := [Cond.methodLink RX9 111 yX9_isHeap, Cond.instanceMethod yX9_isHeap, Cond.selects RX9 yX9_isHeap yX9_isHeap, Cond.initialized RX9, Cond.code yX9_isHeap cX9_isHeap 2 (some .boolean), Cond.fieldLink RX9 94 "HeapMoverModel" "heaps" "I", Cond.methodLink RX9 90 yX9_in, Cond.static yX9_in, Cond.code yX9_in cX9_in 3 (some .boolean), Cond.methodLink RX9 123 yX9_sumOf, Cond.instanceMethod yX9_sumOf, Cond.selects RX9 yX9_sumOf yX9_sumOf, Cond.code yX9_sumOf cX9_sumOf 4 (some .int), Cond.fieldLink RX9 86 "HeapMoverModel" "places" "I", Cond.fieldLink RX9 19 "HeapMoverModel" "amounts" "[I", Cond.methodLink RX9 142 yX9_isJoined, Cond.instanceMethod yX9_isJoined, Cond.selects RX9 yX9_isJoined yX9_isJoined, Cond.code yX9_isJoined cX9_isJoined 3 (some .boolean), Cond.fieldLink RX9 37 "HeapMoverModel" "far" "[I", Cond.constant RX9 115 (1000000000), Cond.methodLink RX9 116 yX9_findFar, Cond.instanceMethod yX9_findFar, Cond.selects RX9 yX9_findFar yX9_findFar]
def wsX9_some_r2 : List Cond := [Cond.code yX9_findFar cX9_findFar 5 none, Cond.fieldLink RX9 108 "HeapMoverModel" "roads" "I", Cond.fieldLink RX9 7 "HeapMoverModel" "roadU" "[I", Cond.fieldLink RX9 13 "HeapMoverModel" "roadV" "[I", Cond.fieldLink RX9 16 "HeapMoverModel" "roadLength" "[I", Cond.methodLink RX9 149 yX9_solve, Cond.instanceMethod yX9_solve, Cond.selects RX9 yX9_solve yX9_solve, Cond.code yX9_solve cX9_solve 6 (some .int), Cond.fieldLink RX9 40 "HeapMoverModel" "flow" "[I", Cond.methodLink RX9 127 yX9_begin, Cond.instanceMethod yX9_begin, Cond.selects RX9 yX9_begin yX9_begin, Cond.code yX9_begin cX9_begin 4 none, Cond.fieldLink RX9 43 "HeapMoverModel" "supply" "[I", Cond.fieldLink RX9 46 "HeapMoverModel" "demand" "[I", Cond.methodLink RX9 131 yX9_findWay, Cond.instanceMethod yX9_findWay, Cond.selects RX9 yX9_findWay yX9_findWay, Cond.code yX9_findWay cX9_findWay 5 (some .int), Cond.fieldLink RX9 52 "HeapMoverModel" "dear" "[I", Cond.fieldLink RX9 55 "HeapMoverModel" "came" "[I", Cond.methodLink RX9 135 yX9_go, Cond.instanceMethod yX9_go]
def wsX9_some_r3 : List Cond := [Cond.selects RX9 yX9_go yX9_go, Cond.code yX9_go cX9_go 6 (some .int), Cond.methodLink RX9 138 yX9_costOf, Cond.instanceMethod yX9_costOf, Cond.selects RX9 yX9_costOf yX9_costOf, Cond.code yX9_costOf cX9_costOf 5 (some .int)]
def wsX9_some : List Cond := .code yX9_some cX9_some 6 (some .int) :: ((wsX9_some_r1 ++ (wsX9_some_r2 ++ wsX9_some_r3)) ++ wsX90)
def wsX9_arc : List Cond := .code yX9_arc cX9_arc 5 none :: ([.fieldLink RX9 68 "HeapMoverModel" "arcFrom" "[I", .fieldLink RX9 182 "HeapMoverModel" "arcs" "I", .fieldLink RX9 71 "HeapMoverModel" "arcTo" "[I", .fieldLink RX9 74 "HeapMoverModel" "arcRoom" "[I", .fieldLink RX9 77 "HeapMoverModel" "arcCost" "[I"] ++ wsX90)
def wsX9_hasNetWay : List Cond := .code yX9_hasNetWay cX9_hasNetWay 4 (some .boolean) :: ([.fieldLink RX9 80 "HeapMoverModel" "netDear" "[I", .constant RX9 115 (1000000000), .fieldLink RX9 83 "HeapMoverModel" "netCame" "[I", .fieldLink RX9 182 "HeapMoverModel" "arcs" "I", .fieldLink RX9 68 "HeapMoverModel" "arcFrom" "[I", .fieldLink RX9 74 "HeapMoverModel" "arcRoom" "[I", .fieldLink RX9 77 "HeapMoverModel" "arcCost" "[I", .fieldLink RX9 71 "HeapMoverModel" "arcTo" "[I"] ++ wsX90)
def wsX9_goNet : List Cond := .code yX9_goNet cX9_goNet 4 (some .int) :: ([.constant RX9 115 (1000000000), .fieldLink RX9 74 "HeapMoverModel" "arcRoom" "[I", .fieldLink RX9 83 "HeapMoverModel" "netCame" "[I", .fieldLink RX9 68 "HeapMoverModel" "arcFrom" "[I"] ++ wsX90)
def wsX9_gated_r1 : List Cond := [Cond.fieldLink RX9 182 "HeapMoverModel" "arcs" "I", Cond.fieldLink RX9 86 "HeapMoverModel" "places" "I", Cond.fieldLink RX9 19 "HeapMoverModel" "amounts" "[I", Cond.fieldLink RX9 22 "HeapMoverModel" "bounds" "[I", Cond.constant RX9 115 (1000000000), Cond.fieldLink RX9 108 "HeapMoverModel" "roads" "I", Cond.fieldLink RX9 7 "HeapMoverModel" "roadU" "[I", Cond.fieldLink RX9 13 "HeapMoverModel" "roadV" "[I", Cond.fieldLink RX9 16 "HeapMoverModel" "roadLength" "[I", Cond.fieldLink RX9 80 "HeapMoverModel" "netDear" "[I", Cond.methodLink RX9 146 yX9_against, Cond.instanceMethod yX9_against, Cond.selects RX9 yX9_against yX9_against, Cond.initialized RX9, Cond.code yX9_against cX9_against 3 (some .int), Cond.methodLink RX9 111 yX9_isHeap, Cond.instanceMethod yX9_isHeap, Cond.selects RX9 yX9_isHeap yX9_isHeap, Cond.code yX9_isHeap cX9_isHeap 2 (some .boolean), Cond.fieldLink RX9 94 "HeapMoverModel" "heaps" "I", Cond.methodLink RX9 90 yX9_in, Cond.static yX9_in, Cond.code yX9_in cX9_in 3 (some .boolean), Cond.methodLink RX9 142 yX9_isJoined]
def wsX9_gated_r2 : List Cond := [Cond.instanceMethod yX9_isJoined, Cond.selects RX9 yX9_isJoined yX9_isJoined, Cond.code yX9_isJoined cX9_isJoined 3 (some .boolean), Cond.fieldLink RX9 37 "HeapMoverModel" "far" "[I", Cond.methodLink RX9 116 yX9_findFar, Cond.instanceMethod yX9_findFar, Cond.selects RX9 yX9_findFar yX9_findFar, Cond.code yX9_findFar cX9_findFar 5 none, Cond.methodLink RX9 123 yX9_sumOf, Cond.instanceMethod yX9_sumOf, Cond.selects RX9 yX9_sumOf yX9_sumOf, Cond.code yX9_sumOf cX9_sumOf 4 (some .int), Cond.methodLink RX9 185 yX9_arc, Cond.instanceMethod yX9_arc, Cond.selects RX9 yX9_arc yX9_arc, Cond.code yX9_arc cX9_arc 5 none, Cond.fieldLink RX9 68 "HeapMoverModel" "arcFrom" "[I", Cond.fieldLink RX9 71 "HeapMoverModel" "arcTo" "[I", Cond.fieldLink RX9 74 "HeapMoverModel" "arcRoom" "[I", Cond.fieldLink RX9 77 "HeapMoverModel" "arcCost" "[I", Cond.methodLink RX9 189 yX9_hasNetWay, Cond.instanceMethod yX9_hasNetWay, Cond.selects RX9 yX9_hasNetWay yX9_hasNetWay, Cond.code yX9_hasNetWay cX9_hasNetWay 4 (some .boolean)]
def wsX9_gated_r3 : List Cond := [Cond.fieldLink RX9 83 "HeapMoverModel" "netCame" "[I", Cond.methodLink RX9 192 yX9_goNet, Cond.instanceMethod yX9_goNet, Cond.selects RX9 yX9_goNet yX9_goNet, Cond.code yX9_goNet cX9_goNet 4 (some .int)]
def wsX9_gated : List Cond := .code yX9_gated cX9_gated 8 (some .int) :: ((wsX9_gated_r1 ++ (wsX9_gated_r2 ++ wsX9_gated_r3)) ++ wsX90)
def wsX9_draft : List Cond := .code yX9_draft cX9_draft 5 (some .int) :: ([.fieldLink RX9 25 "HeapMoverModel" "drafts" "[I", .methodLink RX9 104 yX9_isPlace, .instanceMethod yX9_isPlace, .selects RX9 yX9_isPlace yX9_isPlace, .initialized RX9, .code yX9_isPlace cX9_isPlace 2 (some .boolean), .fieldLink RX9 86 "HeapMoverModel" "places" "I", .methodLink RX9 90 yX9_in, .static yX9_in, .code yX9_in cX9_in 3 (some .boolean)] ++ wsX90)
def wsX9_clear : List Cond := .code yX9_clear cX9_clear 3 (some .int) :: ([.fieldLink RX9 25 "HeapMoverModel" "drafts" "[I"] ++ wsX90)
def wsX9_copy_r1 : List Cond := [Cond.fieldLink RX9 25 "HeapMoverModel" "drafts" "[I", Cond.fieldLink RX9 40 "HeapMoverModel" "flow" "[I", Cond.methodLink RX9 146 yX9_against, Cond.instanceMethod yX9_against, Cond.selects RX9 yX9_against yX9_against, Cond.initialized RX9, Cond.code yX9_against cX9_against 3 (some .int), Cond.methodLink RX9 111 yX9_isHeap, Cond.instanceMethod yX9_isHeap, Cond.selects RX9 yX9_isHeap yX9_isHeap, Cond.code yX9_isHeap cX9_isHeap 2 (some .boolean), Cond.fieldLink RX9 94 "HeapMoverModel" "heaps" "I", Cond.methodLink RX9 90 yX9_in, Cond.static yX9_in, Cond.code yX9_in cX9_in 3 (some .boolean), Cond.methodLink RX9 142 yX9_isJoined, Cond.instanceMethod yX9_isJoined, Cond.selects RX9 yX9_isJoined yX9_isJoined, Cond.code yX9_isJoined cX9_isJoined 3 (some .boolean), Cond.fieldLink RX9 86 "HeapMoverModel" "places" "I", Cond.fieldLink RX9 37 "HeapMoverModel" "far" "[I", Cond.constant RX9 115 (1000000000), Cond.methodLink RX9 116 yX9_findFar, Cond.instanceMethod yX9_findFar]
def wsX9_copy_r2 : List Cond := [Cond.selects RX9 yX9_findFar yX9_findFar, Cond.code yX9_findFar cX9_findFar 5 none, Cond.fieldLink RX9 108 "HeapMoverModel" "roads" "I", Cond.fieldLink RX9 7 "HeapMoverModel" "roadU" "[I", Cond.fieldLink RX9 13 "HeapMoverModel" "roadV" "[I", Cond.fieldLink RX9 16 "HeapMoverModel" "roadLength" "[I", Cond.methodLink RX9 123 yX9_sumOf, Cond.instanceMethod yX9_sumOf, Cond.selects RX9 yX9_sumOf yX9_sumOf, Cond.code yX9_sumOf cX9_sumOf 4 (some .int), Cond.fieldLink RX9 19 "HeapMoverModel" "amounts" "[I", Cond.methodLink RX9 169 yX9_findPlan, Cond.instanceMethod yX9_findPlan, Cond.selects RX9 yX9_findPlan yX9_findPlan, Cond.code yX9_findPlan cX9_findPlan 6 none, Cond.fieldLink RX9 58 "HeapMoverModel" "isFixed" "[Z", Cond.methodLink RX9 149 yX9_solve, Cond.instanceMethod yX9_solve, Cond.selects RX9 yX9_solve yX9_solve, Cond.code yX9_solve cX9_solve 6 (some .int), Cond.methodLink RX9 127 yX9_begin, Cond.instanceMethod yX9_begin, Cond.selects RX9 yX9_begin yX9_begin, Cond.code yX9_begin cX9_begin 4 none]
def wsX9_copy_r3 : List Cond := [Cond.fieldLink RX9 43 "HeapMoverModel" "supply" "[I", Cond.fieldLink RX9 46 "HeapMoverModel" "demand" "[I", Cond.methodLink RX9 131 yX9_findWay, Cond.instanceMethod yX9_findWay, Cond.selects RX9 yX9_findWay yX9_findWay, Cond.code yX9_findWay cX9_findWay 5 (some .int), Cond.fieldLink RX9 52 "HeapMoverModel" "dear" "[I", Cond.fieldLink RX9 55 "HeapMoverModel" "came" "[I", Cond.methodLink RX9 135 yX9_go, Cond.instanceMethod yX9_go, Cond.selects RX9 yX9_go yX9_go, Cond.code yX9_go cX9_go 6 (some .int), Cond.methodLink RX9 138 yX9_costOf, Cond.instanceMethod yX9_costOf, Cond.selects RX9 yX9_costOf yX9_costOf, Cond.code yX9_costOf cX9_costOf 5 (some .int), Cond.methodLink RX9 157 yX9_findHeights, Cond.instanceMethod yX9_findHeights, Cond.selects RX9 yX9_findHeights yX9_findHeights, Cond.code yX9_findHeights cX9_findHeights 5 none, Cond.fieldLink RX9 49 "HeapMoverModel" "heights" "[I", Cond.methodLink RX9 160 yX9_loosen, Cond.instanceMethod yX9_loosen, Cond.selects RX9 yX9_loosen yX9_loosen]
def wsX9_copy_r4 : List Cond := [Cond.code yX9_loosen cX9_loosen 2 none, Cond.methodLink RX9 153 yX9_isTight, Cond.instanceMethod yX9_isTight, Cond.selects RX9 yX9_isTight yX9_isTight, Cond.code yX9_isTight cX9_isTight 3 (some .boolean), Cond.methodLink RX9 163 yX9_canTurn, Cond.instanceMethod yX9_canTurn, Cond.selects RX9 yX9_canTurn yX9_canTurn, Cond.code yX9_canTurn cX9_canTurn 10 (some .boolean), Cond.fieldLink RX9 62 "HeapMoverModel" "isSeen" "[Z", Cond.fieldLink RX9 65 "HeapMoverModel" "queue" "[I", Cond.methodLink RX9 166 yX9_turn, Cond.instanceMethod yX9_turn, Cond.selects RX9 yX9_turn yX9_turn, Cond.code yX9_turn cX9_turn 6 none]
def wsX9_copy : List Cond := .code yX9_copy cX9_copy 6 (some .int) :: ((wsX9_copy_r1 ++ (wsX9_copy_r2 ++ (wsX9_copy_r3 ++ wsX9_copy_r4))) ++ wsX90)
def wsX9_drafted : List Cond := .code yX9_drafted cX9_drafted 5 (some .int) :: ([.fieldLink RX9 86 "HeapMoverModel" "places" "I", .fieldLink RX9 25 "HeapMoverModel" "drafts" "[I"] ++ wsX90)
def wsX9_judge_r1 : List Cond := [Cond.fieldLink RX9 86 "HeapMoverModel" "places" "I", Cond.fieldLink RX9 19 "HeapMoverModel" "amounts" "[I", Cond.fieldLink RX9 199 "HeapMoverModel" "beside" "I", Cond.fieldLink RX9 25 "HeapMoverModel" "drafts" "[I", Cond.methodLink RX9 146 yX9_against, Cond.instanceMethod yX9_against, Cond.selects RX9 yX9_against yX9_against, Cond.initialized RX9, Cond.code yX9_against cX9_against 3 (some .int), Cond.methodLink RX9 111 yX9_isHeap, Cond.instanceMethod yX9_isHeap, Cond.selects RX9 yX9_isHeap yX9_isHeap, Cond.code yX9_isHeap cX9_isHeap 2 (some .boolean), Cond.fieldLink RX9 94 "HeapMoverModel" "heaps" "I", Cond.methodLink RX9 90 yX9_in, Cond.static yX9_in, Cond.code yX9_in cX9_in 3 (some .boolean), Cond.methodLink RX9 142 yX9_isJoined, Cond.instanceMethod yX9_isJoined, Cond.selects RX9 yX9_isJoined yX9_isJoined, Cond.code yX9_isJoined cX9_isJoined 3 (some .boolean), Cond.fieldLink RX9 37 "HeapMoverModel" "far" "[I", Cond.constant RX9 115 (1000000000), Cond.methodLink RX9 116 yX9_findFar]
def wsX9_judge_r2 : List Cond := [Cond.instanceMethod yX9_findFar, Cond.selects RX9 yX9_findFar yX9_findFar, Cond.code yX9_findFar cX9_findFar 5 none, Cond.fieldLink RX9 108 "HeapMoverModel" "roads" "I", Cond.fieldLink RX9 7 "HeapMoverModel" "roadU" "[I", Cond.fieldLink RX9 13 "HeapMoverModel" "roadV" "[I", Cond.fieldLink RX9 16 "HeapMoverModel" "roadLength" "[I", Cond.methodLink RX9 123 yX9_sumOf, Cond.instanceMethod yX9_sumOf, Cond.selects RX9 yX9_sumOf yX9_sumOf, Cond.code yX9_sumOf cX9_sumOf 4 (some .int), Cond.methodLink RX9 195 yX9_drafted, Cond.instanceMethod yX9_drafted, Cond.selects RX9 yX9_drafted yX9_drafted, Cond.code yX9_drafted cX9_drafted 5 (some .int), Cond.methodLink RX9 138 yX9_costOf, Cond.instanceMethod yX9_costOf, Cond.selects RX9 yX9_costOf yX9_costOf, Cond.code yX9_costOf cX9_costOf 5 (some .int), Cond.methodLink RX9 149 yX9_solve, Cond.instanceMethod yX9_solve, Cond.selects RX9 yX9_solve yX9_solve, Cond.code yX9_solve cX9_solve 6 (some .int), Cond.fieldLink RX9 40 "HeapMoverModel" "flow" "[I"]
def wsX9_judge_r3 : List Cond := [Cond.methodLink RX9 127 yX9_begin, Cond.instanceMethod yX9_begin, Cond.selects RX9 yX9_begin yX9_begin, Cond.code yX9_begin cX9_begin 4 none, Cond.fieldLink RX9 43 "HeapMoverModel" "supply" "[I", Cond.fieldLink RX9 46 "HeapMoverModel" "demand" "[I", Cond.methodLink RX9 131 yX9_findWay, Cond.instanceMethod yX9_findWay, Cond.selects RX9 yX9_findWay yX9_findWay, Cond.code yX9_findWay cX9_findWay 5 (some .int), Cond.fieldLink RX9 52 "HeapMoverModel" "dear" "[I", Cond.fieldLink RX9 55 "HeapMoverModel" "came" "[I", Cond.methodLink RX9 135 yX9_go, Cond.instanceMethod yX9_go, Cond.selects RX9 yX9_go yX9_go, Cond.code yX9_go cX9_go 6 (some .int)]
def wsX9_judge : List Cond := .code yX9_judge cX9_judge 6 (some .int) :: ((wsX9_judge_r1 ++ (wsX9_judge_r2 ++ wsX9_judge_r3)) ++ wsX90)
def wsX9_beside : List Cond := .code yX9_beside cX9_beside 1 (some .int) :: ([.fieldLink RX9 199 "HeapMoverModel" "beside" "I"] ++ wsX90)
def wsX9_count : List Cond := .code yX9_count cX9_count 4 (some .int) :: ([.fieldLink RX9 86 "HeapMoverModel" "places" "I", .fieldLink RX9 108 "HeapMoverModel" "roads" "I", .fieldLink RX9 94 "HeapMoverModel" "heaps" "I", .fieldLink RX9 22 "HeapMoverModel" "bounds" "[I", .fieldLink RX9 97 "HeapMoverModel" "kept" "I", .methodLink RX9 142 yX9_isJoined, .instanceMethod yX9_isJoined, .selects RX9 yX9_isJoined yX9_isJoined, .initialized RX9, .code yX9_isJoined cX9_isJoined 3 (some .boolean), .fieldLink RX9 37 "HeapMoverModel" "far" "[I", .constant RX9 115 (1000000000), .methodLink RX9 116 yX9_findFar, .instanceMethod yX9_findFar, .selects RX9 yX9_findFar yX9_findFar, .code yX9_findFar cX9_findFar 5 none, .fieldLink RX9 7 "HeapMoverModel" "roadU" "[I", .fieldLink RX9 13 "HeapMoverModel" "roadV" "[I", .fieldLink RX9 16 "HeapMoverModel" "roadLength" "[I"] ++ wsX90)
def wsJ9_min_7cf53 : List Cond := .code yJ9_min_7cf53 cJ9_min_7cf53 2 (some .int) :: ([])
def wsL_law_r1 : List Cond := [Cond.classLink RL 7 RX8, Cond.instantiable RX8 12, Cond.initialized RX8, Cond.classLink RL 10 RX9, Cond.instantiable RX9 31, Cond.initialized RX9, Cond.methodLink RL 9 yX8_init, Cond.instanceMethod yX8_init, Cond.code yX8_init cX8_init 1 none, Cond.methodLink RX8 3 objectInit, Cond.instanceMethod objectInit, Cond.code objectInit ⟨#[0xb1]⟩ 1 none, Cond.classLink RX8 9 RX3, Cond.instantiable RX3 8, Cond.initialized RX3, Cond.fieldLink RX8 12 "HeapMover" "land" "LHeapMover$Land;", Cond.classLink RX8 16 RX2, Cond.instantiable RX2 2, Cond.initialized RX2, Cond.fieldLink RX8 19 "HeapMover" "heaps" "LHeapMover$Heaps;", Cond.classLink RX8 23 RX0, Cond.instantiable RX0 6, Cond.initialized RX0, Cond.fieldLink RX8 26 "HeapMover" "changes" "LHeapMover$Changes;"]
def wsL_law_r2 : List Cond := [Cond.classLink RX8 30 RX1, Cond.instantiable RX1 1, Cond.initialized RX1, Cond.fieldLink RX8 33 "HeapMover" "drafted" "LHeapMover$Draft;", Cond.classLink RX8 37 RX4, Cond.instantiable RX4 1, Cond.initialized RX4, Cond.fieldLink RX8 40 "HeapMover" "mover" "LHeapMover$Mover;", Cond.classLink RX8 44 RX6, Cond.instantiable RX6 5, Cond.initialized RX6, Cond.fieldLink RX8 47 "HeapMover" "planner" "LHeapMover$Planner;", Cond.classLink RX8 51 RX7, Cond.instantiable RX7 3, Cond.initialized RX7, Cond.fieldLink RX8 54 "HeapMover" "reach" "LHeapMover$Reach;", Cond.fieldLink RX8 58 "HeapMover" "plannedFrom" "I", Cond.fieldLink RX8 62 "HeapMover" "plannedTo" "I", Cond.fieldLink RX8 65 "HeapMover" "reachedFrom" "I", Cond.fieldLink RX8 68 "HeapMover" "reachedTo" "I", Cond.fieldLink RX8 71 "HeapMover" "told" "I", Cond.methodLink RX8 11 yX3_init, Cond.instanceMethod yX3_init, Cond.code yX3_init cX3_init 2 none]
def wsL_law_r3 : List Cond := [Cond.methodLink RX3 3 objectInit, Cond.arrayClass .int, Cond.fieldLink RX3 9 "HeapMover$Land" "starts" "[I", Cond.fieldLink RX3 15 "HeapMover$Land" "ends" "[I", Cond.fieldLink RX3 18 "HeapMover$Land" "lengths" "[I", Cond.fieldLink RX3 21 "HeapMover$Land" "bounds" "[I", Cond.classLink RX3 24 "[[I", Cond.fieldLink RX3 26 "HeapMover$Land" "directs" "[[I", Cond.fieldLink RX3 29 "HeapMover$Land" "distances" "[[I", Cond.instanceMethod yX2_init, Cond.code yX2_init cX2_init 1 none, Cond.methodLink RX2 3 objectInit, Cond.classLink RX2 9 "[[I", Cond.fieldLink RX2 11 "HeapMover$Heaps" "amounts" "[[I", Cond.instanceMethod yX0_init, Cond.code yX0_init cX0_init 1 none, Cond.methodLink RX0 3 objectInit, Cond.fieldLink RX0 9 "HeapMover$Changes" "kinds" "[I", Cond.fieldLink RX0 15 "HeapMover$Changes" "firsts" "[I", Cond.fieldLink RX0 18 "HeapMover$Changes" "seconds" "[I", Cond.fieldLink RX0 21 "HeapMover$Changes" "befores" "[I", Cond.instanceMethod yX1_init, Cond.code yX1_init cX1_init 1 none, Cond.methodLink RX1 3 objectInit]
def wsL_law_r4 : List Cond := [Cond.classLink RX1 9 "[[I", Cond.fieldLink RX1 11 "HeapMover$Draft" "numbers" "[[I", Cond.instanceMethod yX4_init, Cond.code yX4_init cX4_init 1 none, Cond.methodLink RX4 3 objectInit, Cond.classLink RX4 9 RX5, Cond.instantiable RX5 9, Cond.initialized RX5, Cond.fieldLink RX4 12 "HeapMover$Mover" "network" "LHeapMover$Network;", Cond.instanceMethod yX5_init, Cond.code yX5_init cX5_init 1 none, Cond.methodLink RX5 3 objectInit, Cond.fieldLink RX5 9 "HeapMover$Network" "tails" "[I", Cond.fieldLink RX5 15 "HeapMover$Network" "heads" "[I", Cond.fieldLink RX5 18 "HeapMover$Network" "rooms" "[I", Cond.fieldLink RX5 21 "HeapMover$Network" "prices" "[I", Cond.fieldLink RX5 24 "HeapMover$Network" "costs" "[I", Cond.fieldLink RX5 27 "HeapMover$Network" "lastArcs" "[I", Cond.instanceMethod yX6_init, Cond.code yX6_init cX6_init 1 none, Cond.methodLink RX6 3 objectInit, Cond.classLink RX6 9 "[[I", Cond.fieldLink RX6 11 "HeapMover$Planner" "goods" "[[I", Cond.fieldLink RX6 16 "HeapMover$Planner" "heights" "[I"]
def wsL_law_r5 : List Cond := [Cond.fieldLink RX6 20 "HeapMover$Planner" "rowFrom" "[I", Cond.fieldLink RX6 23 "HeapMover$Planner" "columnFrom" "[I", Cond.fieldLink RX6 26 "HeapMover$Planner" "columns" "[I", Cond.instanceMethod yX7_init, Cond.code yX7_init cX7_init 1 none, Cond.methodLink RX7 3 objectInit, Cond.fieldLink RX7 9 "HeapMover$Reach" "stuck" "[I", Cond.classLink RX7 15 RX5, Cond.fieldLink RX7 18 "HeapMover$Reach" "network" "LHeapMover$Network;", Cond.methodLink RL 12 yX9_init, Cond.instanceMethod yX9_init, Cond.code yX9_init cX9_init 2 none, Cond.methodLink RX9 1 objectInit, Cond.fieldLink RX9 7 "HeapMoverModel" "roadU" "[I", Cond.fieldLink RX9 13 "HeapMoverModel" "roadV" "[I", Cond.fieldLink RX9 16 "HeapMoverModel" "roadLength" "[I", Cond.fieldLink RX9 19 "HeapMoverModel" "amounts" "[I", Cond.fieldLink RX9 22 "HeapMoverModel" "bounds" "[I", Cond.fieldLink RX9 25 "HeapMoverModel" "drafts" "[I", Cond.fieldLink RX9 28 "HeapMoverModel" "keptWhat" "[I", Cond.fieldLink RX9 31 "HeapMoverModel" "keptAt" "[I", Cond.fieldLink RX9 34 "HeapMoverModel" "keptWas" "[I", Cond.fieldLink RX9 37 "HeapMoverModel" "far" "[I", Cond.fieldLink RX9 40 "HeapMoverModel" "flow" "[I"]
def wsL_law_r6 : List Cond := [Cond.fieldLink RX9 43 "HeapMoverModel" "supply" "[I", Cond.fieldLink RX9 46 "HeapMoverModel" "demand" "[I", Cond.fieldLink RX9 49 "HeapMoverModel" "heights" "[I", Cond.fieldLink RX9 52 "HeapMoverModel" "dear" "[I", Cond.fieldLink RX9 55 "HeapMoverModel" "came" "[I", Cond.arrayClass .boolean, Cond.fieldLink RX9 58 "HeapMoverModel" "isFixed" "[Z", Cond.fieldLink RX9 62 "HeapMoverModel" "isSeen" "[Z", Cond.fieldLink RX9 65 "HeapMoverModel" "queue" "[I", Cond.fieldLink RX9 68 "HeapMoverModel" "arcFrom" "[I", Cond.fieldLink RX9 71 "HeapMoverModel" "arcTo" "[I", Cond.fieldLink RX9 74 "HeapMoverModel" "arcRoom" "[I", Cond.fieldLink RX9 77 "HeapMoverModel" "arcCost" "[I", Cond.fieldLink RX9 80 "HeapMoverModel" "netDear" "[I", Cond.fieldLink RX9 83 "HeapMoverModel" "netCame" "[I", Cond.methodLink RL 13 yX8_place, Cond.instanceMethod yX8_place, Cond.selects RX8 yX8_place yX8_place, Cond.code yX8_place cX8_place 2 (some .int), Cond.fieldLink RX8 74 "HeapMover$Land" "places" "I", Cond.methodLink RX8 77 yX3_addPlace, Cond.instanceMethod yX3_addPlace, Cond.selects RX3 yX3_addPlace yX3_addPlace, Cond.code yX3_addPlace cX3_addPlace 2 (some .int)]
def wsL_law_r7 : List Cond := [Cond.fieldLink RX3 32 "HeapMover$Land" "places" "I", Cond.methodLink RX3 36 yX3_measure, Cond.instanceMethod yX3_measure, Cond.selects RX3 yX3_measure yX3_measure, Cond.code yX3_measure cX3_measure 3 none, Cond.methodLink RX3 46 arraycopyName, Cond.native arraycopyName, Cond.static arraycopyName, Cond.initialized "java/lang/System", Cond.methodLink RX3 43 yX3_measureRoads, Cond.instanceMethod yX3_measureRoads, Cond.selects RX3 yX3_measureRoads yX3_measureRoads, Cond.code yX3_measureRoads cX3_measureRoads 5 none, Cond.constant RX3 42 (1000000), Cond.fieldLink RX3 39 "HeapMover$Land" "roads" "I", Cond.methodLink RX3 62 Lib.Math.min.name, Cond.static Lib.Math.min.name, Cond.initialized "java/lang/Math", Cond.code Lib.Math.min.name Lib.Math.min.code 2 (some .int), Cond.methodLink RX3 56 yJ7_fill_53178, Cond.static yJ7_fill_53178, Cond.initialized RJ7, Cond.code yJ7_fill_53178 cJ7_fill_53178 4 none, Cond.methodLink RX3 52 yX3_shortenBy]
def wsL_law_r8 : List Cond := [Cond.instanceMethod yX3_shortenBy, Cond.selects RX3 yX3_shortenBy yX3_shortenBy, Cond.code yX3_shortenBy cX3_shortenBy 6 none, Cond.methodLink RX8 81 yX8_noteChange, Cond.instanceMethod yX8_noteChange, Cond.selects RX8 yX8_noteChange yX8_noteChange, Cond.code yX8_noteChange cX8_noteChange 5 none, Cond.methodLink RX8 219 yX0_keep, Cond.instanceMethod yX0_keep, Cond.selects RX0 yX0_keep yX0_keep, Cond.code yX0_keep cX0_keep 6 none, Cond.fieldLink RX0 24 "HeapMover$Changes" "oldest" "I", Cond.fieldLink RX0 28 "HeapMover$Changes" "kept" "I", Cond.methodLink RX8 119 yX8_forgetResults, Cond.instanceMethod yX8_forgetResults, Cond.selects RX8 yX8_forgetResults yX8_forgetResults, Cond.code yX8_forgetResults cX8_forgetResults 1 none, Cond.methodLink RL 17 yX9_place, Cond.instanceMethod yX9_place, Cond.selects RX9 yX9_place yX9_place, Cond.code yX9_place cX9_place 2 (some .int), Cond.fieldLink RX9 86 "HeapMoverModel" "places" "I", Cond.methodLink RX9 100 yX9_keep, Cond.instanceMethod yX9_keep]
def wsL_law_r9 : List Cond := [Cond.selects RX9 yX9_keep yX9_keep, Cond.code yX9_keep cX9_keep 5 none, Cond.fieldLink RX9 97 "HeapMoverModel" "kept" "I", Cond.methodLink RL 18 yX8_road, Cond.instanceMethod yX8_road, Cond.selects RX8 yX8_road yX8_road, Cond.code yX8_road cX8_road 5 (some .int), Cond.fieldLink RX8 89 "HeapMover$Land" "roads" "I", Cond.methodLink RX8 85 yX3_has, Cond.instanceMethod yX3_has, Cond.selects RX3 yX3_has yX3_has, Cond.code yX3_has cX3_has 2 (some .boolean), Cond.methodLink RX8 92 yX3_addRoad, Cond.instanceMethod yX3_addRoad, Cond.selects RX3 yX3_addRoad yX3_addRoad, Cond.code yX3_addRoad cX3_addRoad 5 (some .int), Cond.methodLink RL 22 yX9_road, Cond.instanceMethod yX9_road, Cond.selects RX9 yX9_road yX9_road, Cond.code yX9_road cX9_road 4 (some .int), Cond.fieldLink RX9 108 "HeapMoverModel" "roads" "I", Cond.methodLink RX9 104 yX9_isPlace, Cond.instanceMethod yX9_isPlace, Cond.selects RX9 yX9_isPlace yX9_isPlace]
def wsL_law_r10 : List Cond := [Cond.code yX9_isPlace cX9_isPlace 2 (some .boolean), Cond.methodLink RX9 90 yX9_in, Cond.static yX9_in, Cond.code yX9_in cX9_in 3 (some .boolean), Cond.methodLink RL 23 yX8_heap, Cond.instanceMethod yX8_heap, Cond.selects RX8 yX8_heap yX8_heap, Cond.code yX8_heap cX8_heap 2 (some .int), Cond.fieldLink RX8 96 "HeapMover$Heaps" "made" "I", Cond.methodLink RL 26 yX9_heap, Cond.instanceMethod yX9_heap, Cond.selects RX9 yX9_heap yX9_heap, Cond.code yX9_heap cX9_heap 2 (some .int), Cond.fieldLink RX9 94 "HeapMoverModel" "heaps" "I", Cond.methodLink RL 27 yX8_set, Cond.instanceMethod yX8_set, Cond.selects RX8 yX8_set yX8_set, Cond.code yX8_set cX8_set 5 (some .int), Cond.fieldLink RX8 100 "HeapMover$Heaps" "amounts" "[[I", Cond.methodLink RX8 99 yX2_has, Cond.instanceMethod yX2_has, Cond.selects RX2 yX2_has yX2_has, Cond.code yX2_has cX2_has 2 (some .boolean), Cond.fieldLink RX2 16 "HeapMover$Heaps" "made" "I"]
def wsL_law_r11 : List Cond := [Cond.methodLink RL 30 yX9_set, Cond.instanceMethod yX9_set, Cond.selects RX9 yX9_set yX9_set, Cond.code yX9_set cX9_set 6 (some .int), Cond.methodLink RX9 111 yX9_isHeap, Cond.instanceMethod yX9_isHeap, Cond.selects RX9 yX9_isHeap yX9_isHeap, Cond.code yX9_isHeap cX9_isHeap 2 (some .boolean), Cond.methodLink RL 31 yX8_gate, Cond.instanceMethod yX8_gate, Cond.selects RX8 yX8_gate yX8_gate, Cond.code yX8_gate cX8_gate 4 (some .int), Cond.constant RX8 104 (100000), Cond.fieldLink RX8 105 "HeapMover$Land" "bounds" "[I", Cond.methodLink RL 35 yX9_gate, Cond.instanceMethod yX9_gate, Cond.selects RX9 yX9_gate yX9_gate, Cond.code yX9_gate cX9_gate 4 (some .int), Cond.constant RX9 114 (100000), Cond.methodLink RL 36 yX8_undo, Cond.instanceMethod yX8_undo, Cond.selects RX8 yX8_undo yX8_undo, Cond.code yX8_undo cX8_undo 1 (some .int), Cond.fieldLink RX8 109 "HeapMover$Changes" "kept" "I"]
def wsL_law_r12 : List Cond := [Cond.methodLink RX8 112 yX0_dropLatest, Cond.instanceMethod yX0_dropLatest, Cond.selects RX0 yX0_dropLatest yX0_dropLatest, Cond.code yX0_dropLatest cX0_dropLatest 1 (some .int), Cond.methodLink RX8 115 yX8_takeBack, Cond.instanceMethod yX8_takeBack, Cond.selects RX8 yX8_takeBack yX8_takeBack, Cond.code yX8_takeBack cX8_takeBack 4 none, Cond.fieldLink RX8 222 "HeapMover$Changes" "firsts" "[I", Cond.fieldLink RX8 225 "HeapMover$Changes" "seconds" "[I", Cond.fieldLink RX8 228 "HeapMover$Changes" "kinds" "[I", Cond.fieldLink RX8 240 "HeapMover$Changes" "befores" "[I", Cond.methodLink RX8 231 yX3_dropPlace, Cond.instanceMethod yX3_dropPlace, Cond.selects RX3 yX3_dropPlace yX3_dropPlace, Cond.code yX3_dropPlace cX3_dropPlace 1 none, Cond.methodLink RX8 234 yX1_wipePlace, Cond.instanceMethod yX1_wipePlace, Cond.selects RX1 yX1_wipePlace yX1_wipePlace, Cond.code yX1_wipePlace cX1_wipePlace 3 none, Cond.methodLink RX8 237 yX3_dropRoad, Cond.instanceMethod yX3_dropRoad, Cond.selects RX3 yX3_dropRoad yX3_dropRoad, Cond.code yX3_dropRoad cX3_dropRoad 1 none]
def wsL_law_r13 : List Cond := [Cond.methodLink RL 39 yX9_undo, Cond.instanceMethod yX9_undo, Cond.selects RX9 yX9_undo yX9_undo, Cond.code yX9_undo cX9_undo 4 (some .int), Cond.methodLink RL 40 yX8_apart, Cond.instanceMethod yX8_apart, Cond.selects RX8 yX8_apart yX8_apart, Cond.code yX8_apart cX8_apart 4 (some .int), Cond.fieldLink RX8 122 "HeapMover$Land" "distances" "[[I", Cond.constant RX8 125 (1000000), Cond.methodLink RL 43 yX9_apart, Cond.instanceMethod yX9_apart, Cond.selects RX9 yX9_apart yX9_apart, Cond.code yX9_apart cX9_apart 3 (some .int), Cond.constant RX9 115 (1000000000), Cond.methodLink RX9 116 yX9_findFar, Cond.instanceMethod yX9_findFar, Cond.selects RX9 yX9_findFar yX9_findFar, Cond.code yX9_findFar cX9_findFar 5 none, Cond.methodLink RL 44 yX8_next, Cond.instanceMethod yX8_next, Cond.selects RX8 yX8_next yX8_next, Cond.code yX8_next cX8_next 3 (some .int), Cond.methodLink RX8 126 yX3_placeBehind]
def wsL_law_r14 : List Cond := [Cond.instanceMethod yX3_placeBehind, Cond.selects RX3 yX3_placeBehind yX3_placeBehind, Cond.code yX3_placeBehind cX3_placeBehind 4 (some .int), Cond.methodLink RL 47 yX9_next, Cond.instanceMethod yX9_next, Cond.selects RX9 yX9_next yX9_next, Cond.code yX9_next cX9_next 3 (some .int), Cond.methodLink RX9 119 yX9_nextTo, Cond.instanceMethod yX9_nextTo, Cond.selects RX9 yX9_nextTo yX9_nextTo, Cond.code yX9_nextTo cX9_nextTo 7 (some .int), Cond.methodLink RL 48 yX8_amount, Cond.instanceMethod yX8_amount, Cond.selects RX8 yX8_amount yX8_amount, Cond.code yX8_amount cX8_amount 3 (some .int), Cond.methodLink RL 51 yX9_amount, Cond.instanceMethod yX9_amount, Cond.selects RX9 yX9_amount yX9_amount, Cond.code yX9_amount cX9_amount 3 (some .int), Cond.methodLink RL 52 yX8_sum, Cond.instanceMethod yX8_sum, Cond.selects RX8 yX8_sum yX8_sum, Cond.code yX8_sum cX8_sum 2 (some .int), Cond.methodLink RX8 130 yX2_total]
def wsL_law_r15 : List Cond := [Cond.instanceMethod yX2_total, Cond.selects RX2 yX2_total yX2_total, Cond.code yX2_total cX2_total 4 (some .int), Cond.methodLink RL 56 yX9_sum, Cond.instanceMethod yX9_sum, Cond.selects RX9 yX9_sum yX9_sum, Cond.code yX9_sum cX9_sum 2 (some .int), Cond.methodLink RX9 123 yX9_sumOf, Cond.instanceMethod yX9_sumOf, Cond.selects RX9 yX9_sumOf yX9_sumOf, Cond.code yX9_sumOf cX9_sumOf 4 (some .int), Cond.methodLink RL 57 yX8_least, Cond.instanceMethod yX8_least, Cond.selects RX8 yX8_least yX8_least, Cond.code yX8_least cX8_least 4 (some .int), Cond.methodLink RX8 134 yX8_refusalOfMoving, Cond.instanceMethod yX8_refusalOfMoving, Cond.selects RX8 yX8_refusalOfMoving yX8_refusalOfMoving, Cond.code yX8_refusalOfMoving cX8_refusalOfMoving 3 (some .int), Cond.methodLink RX8 177 yX3_isJoined, Cond.instanceMethod yX3_isJoined, Cond.selects RX3 yX3_isJoined yX3_isJoined, Cond.code yX3_isJoined cX3_isJoined 2 (some .boolean), Cond.methodLink RX8 137 yX8_leastCost]
def wsL_law_r16 : List Cond := [Cond.instanceMethod yX8_leastCost, Cond.selects RX8 yX8_leastCost yX8_leastCost, Cond.code yX8_leastCost cX8_leastCost 3 (some .int), Cond.methodLink RX8 181 yX4_cheapest, Cond.instanceMethod yX4_cheapest, Cond.selects RX4 yX4_cheapest yX4_cheapest, Cond.code yX4_cheapest cX4_cheapest 7 (some .int), Cond.fieldLink RX4 21 "HeapMover$Land" "places" "I", Cond.constant RX4 31 (1000000), Cond.fieldLink RX4 32 "HeapMover$Land" "distances" "[[I", Cond.fieldLink RX4 51 "HeapMover$Network" "spent" "I", Cond.methodLink RX4 18 yX5_empty, Cond.instanceMethod yX5_empty, Cond.selects RX5 yX5_empty yX5_empty, Cond.code yX5_empty cX5_empty 1 none, Cond.fieldLink RX5 30 "HeapMover$Network" "arcs" "I", Cond.fieldLink RX5 34 "HeapMover$Network" "moved" "I", Cond.fieldLink RX5 37 "HeapMover$Network" "spent" "I", Cond.methodLink RX4 27 yX4_joinSource, Cond.instanceMethod yX4_joinSource, Cond.selects RX4 yX4_joinSource yX4_joinSource, Cond.code yX4_joinSource cX4_joinSource 6 (some .int), Cond.methodLink RX4 36 yX5_join, Cond.instanceMethod yX5_join]
def wsL_law_r17 : List Cond := [Cond.selects RX5 yX5_join yX5_join, Cond.code yX5_join cX5_join 5 none, Cond.methodLink RX5 40 yX5_addArc, Cond.instanceMethod yX5_addArc, Cond.selects RX5 yX5_addArc yX5_addArc, Cond.code yX5_addArc cX5_addArc 5 none, Cond.methodLink RX4 40 yX4_joinSink, Cond.instanceMethod yX4_joinSink, Cond.selects RX4 yX4_joinSink yX4_joinSink, Cond.code yX4_joinSink cX4_joinSink 5 none, Cond.methodLink RX4 44 yX4_staying, Cond.static yX4_staying, Cond.code yX4_staying cX4_staying 5 (some .int), Cond.methodLink RX4 64 Lib.Math.min.name, Cond.methodLink RX4 47 yX5_push, Cond.instanceMethod yX5_push, Cond.selects RX5 yX5_push yX5_push, Cond.code yX5_push cX5_push 3 none, Cond.methodLink RX5 44 yX5_search, Cond.instanceMethod yX5_search, Cond.selects RX5 yX5_search yX5_search, Cond.code yX5_search cX5_search 2 (some .boolean), Cond.constant RX5 52 (1000000), Cond.methodLink RX5 53 yJ7_fill_53178]
def wsL_law_r18 : List Cond := [Cond.methodLink RX5 59 yX5_relax, Cond.instanceMethod yX5_relax, Cond.selects RX5 yX5_relax yX5_relax, Cond.code yX5_relax cX5_relax 4 (some .boolean), Cond.methodLink RX5 62 yX5_isReached, Cond.instanceMethod yX5_isReached, Cond.selects RX5 yX5_isReached yX5_isReached, Cond.code yX5_isReached cX5_isReached 2 (some .boolean), Cond.methodLink RX5 48 yX5_carry, Cond.instanceMethod yX5_carry, Cond.selects RX5 yX5_carry yX5_carry, Cond.code yX5_carry cX5_carry 5 none, Cond.methodLink RX5 66 Lib.Math.min.name, Cond.methodLink RL 60 yX9_least, Cond.instanceMethod yX9_least, Cond.selects RX9 yX9_least yX9_least, Cond.code yX9_least cX9_least 4 (some .int), Cond.methodLink RX9 146 yX9_against, Cond.instanceMethod yX9_against, Cond.selects RX9 yX9_against yX9_against, Cond.code yX9_against cX9_against 3 (some .int), Cond.methodLink RX9 142 yX9_isJoined, Cond.instanceMethod yX9_isJoined, Cond.selects RX9 yX9_isJoined yX9_isJoined]
def wsL_law_r19 : List Cond := [Cond.code yX9_isJoined cX9_isJoined 3 (some .boolean), Cond.methodLink RX9 149 yX9_solve, Cond.instanceMethod yX9_solve, Cond.selects RX9 yX9_solve yX9_solve, Cond.code yX9_solve cX9_solve 6 (some .int), Cond.methodLink RX9 127 yX9_begin, Cond.instanceMethod yX9_begin, Cond.selects RX9 yX9_begin yX9_begin, Cond.code yX9_begin cX9_begin 4 none, Cond.methodLink RX9 131 yX9_findWay, Cond.instanceMethod yX9_findWay, Cond.selects RX9 yX9_findWay yX9_findWay, Cond.code yX9_findWay cX9_findWay 5 (some .int), Cond.methodLink RX9 135 yX9_go, Cond.instanceMethod yX9_go, Cond.selects RX9 yX9_go yX9_go, Cond.code yX9_go cX9_go 6 (some .int), Cond.methodLink RX9 138 yX9_costOf, Cond.instanceMethod yX9_costOf, Cond.selects RX9 yX9_costOf yX9_costOf, Cond.code yX9_costOf cX9_costOf 5 (some .int), Cond.methodLink RL 61 yX8_plan, Cond.instanceMethod yX8_plan, Cond.selects RX8 yX8_plan yX8_plan]
def wsL_law_r20 : List Cond := [Cond.code yX8_plan cX8_plan 6 (some .int), Cond.fieldLink RX8 148 "HeapMover$Planner" "goods" "[[I", Cond.methodLink RX8 140 yX8_refusalAtPlaces, Cond.instanceMethod yX8_refusalAtPlaces, Cond.selects RX8 yX8_refusalAtPlaces yX8_refusalAtPlaces, Cond.code yX8_refusalAtPlaces cX8_refusalAtPlaces 5 (some .int), Cond.methodLink RX8 144 yX8_makePlan, Cond.instanceMethod yX8_makePlan, Cond.selects RX8 yX8_makePlan yX8_makePlan, Cond.code yX8_makePlan cX8_makePlan 3 none, Cond.methodLink RX8 212 yX6_make, Cond.instanceMethod yX6_make, Cond.selects RX6 yX6_make yX6_make, Cond.code yX6_make cX6_make 6 none, Cond.fieldLink RX6 35 "HeapMover$Land" "places" "I", Cond.fieldLink RX6 41 "HeapMover$Mover" "network" "LHeapMover$Network;", Cond.methodLink RX6 29 yX4_cheapest, Cond.methodLink RX6 45 yX6_takeGoods, Cond.instanceMethod yX6_takeGoods, Cond.selects RX6 yX6_takeGoods yX6_takeGoods, Cond.code yX6_takeGoods cX6_takeGoods 8 none, Cond.methodLink RX6 65 Lib.Math.min.name, Cond.fieldLink RX6 71 "HeapMover$Network" "arcs" "I", Cond.fieldLink RX6 76 "HeapMover$Network" "tails" "[I"]
def wsL_law_r21 : List Cond := [Cond.fieldLink RX6 79 "HeapMover$Network" "heads" "[I", Cond.fieldLink RX6 82 "HeapMover$Network" "rooms" "[I", Cond.methodLink RX6 59 yJ7_fill_53178, Cond.methodLink RX6 49 yX6_raiseHeights, Cond.instanceMethod yX6_raiseHeights, Cond.selects RX6 yX6_raiseHeights yX6_raiseHeights, Cond.code yX6_raiseHeights cX6_raiseHeights 3 none, Cond.fieldLink RX6 56 "HeapMover$Land" "distances" "[[I", Cond.methodLink RX6 85 yX6_lowerHeights, Cond.instanceMethod yX6_lowerHeights, Cond.selects RX6 yX6_lowerHeights yX6_lowerHeights, Cond.code yX6_lowerHeights cX6_lowerHeights 6 (some .boolean), Cond.methodLink RX6 53 yX6_putFirst, Cond.instanceMethod yX6_putFirst, Cond.selects RX6 yX6_putFirst yX6_putFirst, Cond.code yX6_putFirst cX6_putFirst 6 none, Cond.methodLink RX6 89 yX6_isTight, Cond.instanceMethod yX6_isTight, Cond.selects RX6 yX6_isTight yX6_isTight, Cond.code yX6_isTight cX6_isTight 4 (some .boolean), Cond.methodLink RX6 93 yX6_cell, Cond.static yX6_cell, Cond.code yX6_cell cX6_cell 2 (some .int), Cond.methodLink RX6 96 yX6_findRing]
def wsL_law_r22 : List Cond := [Cond.instanceMethod yX6_findRing, Cond.selects RX6 yX6_findRing yX6_findRing, Cond.code yX6_findRing cX6_findRing 10 (some .boolean), Cond.methodLink RX6 104 yX6_reachColumns, Cond.instanceMethod yX6_reachColumns, Cond.selects RX6 yX6_reachColumns yX6_reachColumns, Cond.code yX6_reachColumns cX6_reachColumns 7 (some .int), Cond.methodLink RX6 100 yX6_turnRing, Cond.instanceMethod yX6_turnRing, Cond.selects RX6 yX6_turnRing yX6_turnRing, Cond.code yX6_turnRing cX6_turnRing 7 none, Cond.methodLink RX6 108 yX6_ringAmount, Cond.instanceMethod yX6_ringAmount, Cond.selects RX6 yX6_ringAmount yX6_ringAmount, Cond.code yX6_ringAmount cX6_ringAmount 7 (some .int), Cond.methodLink RL 65 yX9_plan, Cond.instanceMethod yX9_plan, Cond.selects RX9 yX9_plan yX9_plan, Cond.code yX9_plan cX9_plan 6 (some .int), Cond.methodLink RX9 169 yX9_findPlan, Cond.instanceMethod yX9_findPlan, Cond.selects RX9 yX9_findPlan yX9_findPlan, Cond.code yX9_findPlan cX9_findPlan 6 none, Cond.methodLink RX9 157 yX9_findHeights]
def wsL_law_r23 : List Cond := [Cond.instanceMethod yX9_findHeights, Cond.selects RX9 yX9_findHeights yX9_findHeights, Cond.code yX9_findHeights cX9_findHeights 5 none, Cond.methodLink RX9 160 yX9_loosen, Cond.instanceMethod yX9_loosen, Cond.selects RX9 yX9_loosen yX9_loosen, Cond.code yX9_loosen cX9_loosen 2 none, Cond.methodLink RX9 153 yX9_isTight, Cond.instanceMethod yX9_isTight, Cond.selects RX9 yX9_isTight yX9_isTight, Cond.code yX9_isTight cX9_isTight 3 (some .boolean), Cond.methodLink RX9 163 yX9_canTurn, Cond.instanceMethod yX9_canTurn, Cond.selects RX9 yX9_canTurn yX9_canTurn, Cond.code yX9_canTurn cX9_canTurn 10 (some .boolean), Cond.methodLink RX9 166 yX9_turn, Cond.instanceMethod yX9_turn, Cond.selects RX9 yX9_turn yX9_turn, Cond.code yX9_turn cX9_turn 6 none, Cond.methodLink RL 66 yX8_alone, Cond.instanceMethod yX8_alone, Cond.selects RX8 yX8_alone yX8_alone, Cond.code yX8_alone cX8_alone 4 (some .int), Cond.methodLink RX8 151 yX6_hasOther]
def wsL_law_r24 : List Cond := [Cond.instanceMethod yX6_hasOther, Cond.selects RX6 yX6_hasOther yX6_hasOther, Cond.code yX6_hasOther cX6_hasOther 4 (some .boolean), Cond.methodLink RL 69 yX9_alone, Cond.instanceMethod yX9_alone, Cond.selects RX9 yX9_alone yX9_alone, Cond.code yX9_alone cX9_alone 6 (some .int), Cond.methodLink RL 70 yX8_height, Cond.instanceMethod yX8_height, Cond.selects RX8 yX8_height yX8_height, Cond.code yX8_height cX8_height 4 (some .int), Cond.constant RX8 155 (-2147483648), Cond.fieldLink RX8 156 "HeapMover$Planner" "heights" "[I", Cond.methodLink RL 73 yX9_height, Cond.instanceMethod yX9_height, Cond.selects RX9 yX9_height yX9_height, Cond.code yX9_height cX9_height 5 (some .int), Cond.constant RX9 172 (-2147483648), Cond.methodLink RL 74 yX8_load, Cond.instanceMethod yX8_load, Cond.selects RX8 yX8_load yX8_load, Cond.code yX8_load cX8_load 6 (some .int), Cond.methodLink RX8 159 yX6_carried, Cond.instanceMethod yX6_carried]
def wsL_law_r25 : List Cond := [Cond.selects RX6 yX6_carried yX6_carried, Cond.code yX6_carried cX6_carried 7 (some .int), Cond.methodLink RX6 111 yX3_placeBehind, Cond.methodLink RX6 114 yX6_passes, Cond.static yX6_passes, Cond.code yX6_passes cX6_passes 6 (some .boolean), Cond.methodLink RL 77 yX9_load, Cond.instanceMethod yX9_load, Cond.selects RX9 yX9_load yX9_load, Cond.code yX9_load cX9_load 11 (some .int), Cond.methodLink RL 78 yX8_far, Cond.instanceMethod yX8_far, Cond.selects RX8 yX8_far yX8_far, Cond.code yX8_far cX8_far 4 (some .int), Cond.fieldLink RX8 166 "HeapMover$Reach" "farthest" "I", Cond.methodLink RX8 163 yX8_makeReach, Cond.instanceMethod yX8_makeReach, Cond.selects RX8 yX8_makeReach yX8_makeReach, Cond.code yX8_makeReach cX8_makeReach 3 none, Cond.methodLink RX8 216 yX7_make, Cond.instanceMethod yX7_make, Cond.selects RX7 yX7_make yX7_make, Cond.code yX7_make cX7_make 6 none, Cond.fieldLink RX7 22 "HeapMover$Land" "places" "I"]
def wsL_law_r26 : List Cond := [Cond.fieldLink RX7 38 "HeapMover$Reach" "farthest" "I", Cond.fieldLink RX7 49 "HeapMover$Network" "moved" "I", Cond.methodLink RX7 28 yX7_joinEnds, Cond.instanceMethod yX7_joinEnds, Cond.selects RX7 yX7_joinEnds yX7_joinEnds, Cond.code yX7_joinEnds cX7_joinEnds 5 none, Cond.methodLink RX7 59 yX5_empty, Cond.methodLink RX7 62 yX5_join, Cond.methodLink RX7 32 yJ7_fill_53178, Cond.methodLink RX7 41 yX7_joinDistance, Cond.instanceMethod yX7_joinDistance, Cond.selects RX7 yX7_joinDistance yX7_joinDistance, Cond.code yX7_joinDistance cX7_joinDistance 6 none, Cond.fieldLink RX7 66 "HeapMover$Land" "distances" "[[I", Cond.constant RX7 70 (1000000), Cond.methodLink RX7 45 yX5_push, Cond.methodLink RX7 52 yX7_noteStuck, Cond.instanceMethod yX7_noteStuck, Cond.selects RX7 yX7_noteStuck yX7_noteStuck, Cond.code yX7_noteStuck cX7_noteStuck 3 none, Cond.methodLink RX7 71 yX5_isReached, Cond.methodLink RX7 55 yX7_distanceAbove, Cond.static yX7_distanceAbove, Cond.code yX7_distanceAbove cX7_distanceAbove 5 (some .int)]
def wsL_law_r27 : List Cond := [Cond.methodLink RX7 75 Lib.Math.min.name, Cond.methodLink RL 81 yX9_far, Cond.instanceMethod yX9_far, Cond.selects RX9 yX9_far yX9_far, Cond.code yX9_far cX9_far 4 (some .int), Cond.methodLink RX9 179 yX9_findFarthest, Cond.instanceMethod yX9_findFarthest, Cond.selects RX9 yX9_findFarthest yX9_findFarthest, Cond.code yX9_findFarthest cX9_findFarthest 8 (some .int), Cond.methodLink RX9 176 yX9_fits, Cond.instanceMethod yX9_fits, Cond.selects RX9 yX9_fits yX9_fits, Cond.code yX9_fits cX9_fits 7 (some .boolean), Cond.methodLink RX9 173 yX9_reach, Cond.instanceMethod yX9_reach, Cond.selects RX9 yX9_reach yX9_reach, Cond.code yX9_reach cX9_reach 8 (some .int), Cond.methodLink RL 82 yX8_shown, Cond.instanceMethod yX8_shown, Cond.selects RX8 yX8_shown yX8_shown, Cond.code yX8_shown cX8_shown 5 (some .int), Cond.fieldLink RX8 169 "HeapMover$Reach" "stuck" "[I", Cond.methodLink RL 85 yX9_shown, Cond.instanceMethod yX9_shown]
def wsL_law_r28 : List Cond := [Cond.selects RX9 yX9_shown yX9_shown, Cond.code yX9_shown cX9_shown 7 (some .int), Cond.methodLink RL 86 yX8_some, Cond.instanceMethod yX8_some, Cond.selects RX8 yX8_some yX8_some, Cond.code yX8_some cX8_some 4 (some .int), Cond.methodLink RX8 172 Lib.Math.min.name, Cond.methodLink RL 89 yX9_some, Cond.instanceMethod yX9_some, Cond.selects RX9 yX9_some yX9_some, Cond.code yX9_some cX9_some 6 (some .int), Cond.methodLink RL 90 yX8_gated, Cond.instanceMethod yX8_gated, Cond.selects RX8 yX8_gated yX8_gated, Cond.code yX8_gated cX8_gated 4 (some .int), Cond.methodLink RX8 185 yX4_cheapestThroughGates, Cond.instanceMethod yX4_cheapestThroughGates, Cond.selects RX4 yX4_cheapestThroughGates yX4_cheapestThroughGates, Cond.code yX4_cheapestThroughGates cX4_cheapestThroughGates 8 (some .int), Cond.fieldLink RX4 54 "HeapMover$Land" "bounds" "[I", Cond.fieldLink RX4 58 "HeapMover$Land" "directs" "[[I", Cond.fieldLink RX4 61 "HeapMover$Network" "moved" "I", Cond.methodLink RL 93 yX9_gated, Cond.instanceMethod yX9_gated]
def wsL_law_r29 : List Cond := [Cond.selects RX9 yX9_gated yX9_gated, Cond.code yX9_gated cX9_gated 8 (some .int), Cond.fieldLink RX9 182 "HeapMoverModel" "arcs" "I", Cond.methodLink RX9 185 yX9_arc, Cond.instanceMethod yX9_arc, Cond.selects RX9 yX9_arc yX9_arc, Cond.code yX9_arc cX9_arc 5 none, Cond.methodLink RX9 189 yX9_hasNetWay, Cond.instanceMethod yX9_hasNetWay, Cond.selects RX9 yX9_hasNetWay yX9_hasNetWay, Cond.code yX9_hasNetWay cX9_hasNetWay 4 (some .boolean), Cond.methodLink RX9 192 yX9_goNet, Cond.instanceMethod yX9_goNet, Cond.selects RX9 yX9_goNet yX9_goNet, Cond.code yX9_goNet cX9_goNet 4 (some .int), Cond.methodLink RL 94 yX8_draft, Cond.instanceMethod yX8_draft, Cond.selects RX8 yX8_draft yX8_draft, Cond.code yX8_draft cX8_draft 5 (some .int), Cond.fieldLink RX8 189 "HeapMover$Draft" "numbers" "[[I", Cond.methodLink RL 97 yX9_draft, Cond.instanceMethod yX9_draft, Cond.selects RX9 yX9_draft yX9_draft, Cond.code yX9_draft cX9_draft 5 (some .int)]
def wsL_law_r30 : List Cond := [Cond.methodLink RL 98 yX8_clear, Cond.instanceMethod yX8_clear, Cond.selects RX8 yX8_clear yX8_clear, Cond.code yX8_clear cX8_clear 2 (some .int), Cond.methodLink RX8 192 yX1_others, Cond.instanceMethod yX1_others, Cond.selects RX1 yX1_others yX1_others, Cond.code yX1_others cX1_others 4 (some .int), Cond.methodLink RX8 195 yX1_wipe, Cond.instanceMethod yX1_wipe, Cond.selects RX1 yX1_wipe yX1_wipe, Cond.code yX1_wipe cX1_wipe 2 none, Cond.methodLink RX1 16 yJ7_fill_53178, Cond.methodLink RL 101 yX9_clear, Cond.instanceMethod yX9_clear, Cond.selects RX9 yX9_clear yX9_clear, Cond.code yX9_clear cX9_clear 3 (some .int), Cond.methodLink RL 102 yX8_copy, Cond.instanceMethod yX8_copy, Cond.selects RX8 yX8_copy yX8_copy, Cond.code yX8_copy cX8_copy 6 (some .int), Cond.methodLink RL 105 yX9_copy, Cond.instanceMethod yX9_copy, Cond.selects RX9 yX9_copy yX9_copy]
def wsL_law_r31 : List Cond := [Cond.code yX9_copy cX9_copy 6 (some .int), Cond.methodLink RL 106 yX8_judge, Cond.instanceMethod yX8_judge, Cond.selects RX8 yX8_judge yX8_judge, Cond.code yX8_judge cX8_judge 5 (some .int), Cond.methodLink RX8 198 yX1_firstWrongFrom, Cond.instanceMethod yX1_firstWrongFrom, Cond.selects RX1 yX1_firstWrongFrom yX1_firstWrongFrom, Cond.code yX1_firstWrongFrom cX1_firstWrongFrom 6 (some .int), Cond.methodLink RX8 202 yX1_firstWrongTo, Cond.instanceMethod yX1_firstWrongTo, Cond.selects RX1 yX1_firstWrongTo yX1_firstWrongTo, Cond.code yX1_firstWrongTo cX1_firstWrongTo 6 (some .int), Cond.methodLink RX8 205 yX1_cost, Cond.instanceMethod yX1_cost, Cond.selects RX1 yX1_cost yX1_cost, Cond.code yX1_cost cX1_cost 5 (some .int), Cond.fieldLink RX1 22 "HeapMover$Land" "places" "I", Cond.fieldLink RX1 28 "HeapMover$Land" "distances" "[[I", Cond.methodLink RL 109 yX9_judge, Cond.instanceMethod yX9_judge, Cond.selects RX9 yX9_judge yX9_judge, Cond.code yX9_judge cX9_judge 6 (some .int), Cond.fieldLink RX9 199 "HeapMoverModel" "beside" "I"]
def wsL_law_r32 : List Cond := [Cond.methodLink RX9 195 yX9_drafted, Cond.instanceMethod yX9_drafted, Cond.selects RX9 yX9_drafted yX9_drafted, Cond.code yX9_drafted cX9_drafted 5 (some .int), Cond.methodLink RL 110 yX8_beside, Cond.instanceMethod yX8_beside, Cond.selects RX8 yX8_beside yX8_beside, Cond.code yX8_beside cX8_beside 1 (some .int), Cond.methodLink RL 113 yX9_beside, Cond.instanceMethod yX9_beside, Cond.selects RX9 yX9_beside yX9_beside, Cond.code yX9_beside cX9_beside 1 (some .int), Cond.methodLink RL 114 yX8_count, Cond.instanceMethod yX8_count, Cond.selects RX8 yX8_count yX8_count, Cond.code yX8_count cX8_count 2 (some .int), Cond.methodLink RX8 209 yX3_gates, Cond.instanceMethod yX3_gates, Cond.selects RX3 yX3_gates yX3_gates, Cond.code yX3_gates cX3_gates 3 (some .int), Cond.methodLink RL 117 yX9_count, Cond.instanceMethod yX9_count, Cond.selects RX9 yX9_count yX9_count, Cond.code yX9_count cX9_count 4 (some .int)]
def wsL_law : List Cond := (wsL_law_r1 ++ (wsL_law_r2 ++ (wsL_law_r3 ++ (wsL_law_r4 ++ (wsL_law_r5 ++ (wsL_law_r6 ++ (wsL_law_r7 ++ (wsL_law_r8 ++ (wsL_law_r9 ++ (wsL_law_r10 ++ (wsL_law_r11 ++ (wsL_law_r12 ++ (wsL_law_r13 ++ (wsL_law_r14 ++ (wsL_law_r15 ++ (wsL_law_r16 ++ (wsL_law_r17 ++ (wsL_law_r18 ++ (wsL_law_r19 ++ (wsL_law_r20 ++ (wsL_law_r21 ++ (wsL_law_r22 ++ (wsL_law_r23 ++ (wsL_law_r24 ++ (wsL_law_r25 ++ (wsL_law_r26 ++ (wsL_law_r27 ++ (wsL_law_r28 ++ (wsL_law_r29 ++ (wsL_law_r30 ++ (wsL_law_r31 ++ wsL_law_r32))))))))))))))))))))))))))))))) ++ wsX80 ++ wsX90 ++ wsX30 ++ wsX20 ++ wsX00 ++ wsX10 ++ wsX40 ++ wsX60 ++ wsX70 ++ wsX50 ++ ([] : List Cond)
theorem inlX0 : ∀ w ∈ wsX00, w ∈ wsL_law := fun _ h => List.mem_append_left _ (List.mem_append_left _ (List.mem_append_left _ (List.mem_append_left _ (List.mem_append_left _ (List.mem_append_left _ (List.mem_append_right _ h))))))
theorem inlX1 : ∀ w ∈ wsX10, w ∈ wsL_law := fun _ h => List.mem_append_left _ (List.mem_append_left _ (List.mem_append_left _ (List.mem_append_left _ (List.mem_append_left _ (List.mem_append_right _ h)))))
theorem inlX2 : ∀ w ∈ wsX20, w ∈ wsL_law := fun _ h => List.mem_append_left _ (List.mem_append_left _ (List.mem_append_left _ (List.mem_append_left _ (List.mem_append_left _ (List.mem_append_left _ (List.mem_append_left _ (List.mem_append_right _ h)))))))
theorem inlX3 : ∀ w ∈ wsX30, w ∈ wsL_law := fun _ h => List.mem_append_left _ (List.mem_append_left _ (List.mem_append_left _ (List.mem_append_left _ (List.mem_append_left _ (List.mem_append_left _ (List.mem_append_left _ (List.mem_append_left _ (List.mem_append_right _ h))))))))
theorem inlX4 : ∀ w ∈ wsX40, w ∈ wsL_law := fun _ h => List.mem_append_left _ (List.mem_append_left _ (List.mem_append_left _ (List.mem_append_left _ (List.mem_append_right _ h))))
theorem inlX5 : ∀ w ∈ wsX50, w ∈ wsL_law := fun _ h => List.mem_append_left _ (List.mem_append_right _ h)
theorem inlX6 : ∀ w ∈ wsX60, w ∈ wsL_law := fun _ h => List.mem_append_left _ (List.mem_append_left _ (List.mem_append_left _ (List.mem_append_right _ h)))
theorem inlX7 : ∀ w ∈ wsX70, w ∈ wsL_law := fun _ h => List.mem_append_left _ (List.mem_append_left _ (List.mem_append_right _ h))
theorem inlX8 : ∀ w ∈ wsX80, w ∈ wsL_law := fun _ h => List.mem_append_left _ (List.mem_append_left _ (List.mem_append_left _ (List.mem_append_left _ (List.mem_append_left _ (List.mem_append_left _ (List.mem_append_left _ (List.mem_append_left _ (List.mem_append_left _ (List.mem_append_left _ (List.mem_append_right _ h))))))))))
theorem inlX9 : ∀ w ∈ wsX90, w ∈ wsL_law := fun _ h => List.mem_append_left _ (List.mem_append_left _ (List.mem_append_left _ (List.mem_append_left _ (List.mem_append_left _ (List.mem_append_left _ (List.mem_append_left _ (List.mem_append_left _ (List.mem_append_left _ (List.mem_append_right _ h)))))))))
abbrev vwCl : List vw_C := [(RX0, TX0, 6), (RX1, TX1, 1), (RX2, TX2, 2), (RX3, TX3, 8), (RX4, TX4, 1), (RX5, TX5, 9), (RX6, TX6, 5), (RX7, TX7, 3), (RX8, TX8, 12), (RX9, TX9, 31)]
end
section
/-! whole numbers for the machine's ints; the memory of a world: a row of numbers for each cell; the cells' addresses are variables -/
abbrev inR (x : Int) : Prop := -2147483648 ≤ x ∧ x ≤ 2147483647
abbrev i32 (x : Int) : Int32 := Int32.ofInt x
theorem i32_toInt {x : Int} (h : inR x) : (i32 x).toInt = x := Int32.toInt_ofInt_of_le (by have := h.1; omega) (by have := h.2; omega)
theorem inR_toInt (x : Int32) : inR x.toInt := ⟨by have := Int32.le_toInt x; omega, by have := Int32.toInt_lt x; omega⟩
theorem i32_le {x y : Int} (hx : inR x) (hy : inR y) : i32 x ≤ i32 y ↔ x ≤ y := by rw [Int32.le_iff_toInt_le, i32_toInt hx, i32_toInt hy]
theorem i32_lt {x y : Int} (hx : inR x) (hy : inR y) : i32 x < i32 y ↔ x < y := by rw [Int32.lt_iff_toInt_lt, i32_toInt hx, i32_toInt hy]
theorem i32_eq {x y : Int} (hx : inR x) (hy : inR y) : i32 x = i32 y ↔ x = y := by rw [← Int32.toInt_inj, i32_toInt hx, i32_toInt hy]
theorem i32_0 : i32 0 = 0 := rfl
theorem i32_in {x n : Int} (h0 : 0 ≤ x) (h : x < n) (hn : n ≤ 2147483647) : vp_in (i32 x) n.toNat ∧ (i32 x).toNatClampNeg = x.toNat := by
  have hr : inR x := ⟨by omega, by omega⟩
  have hc : (i32 x).toNatClampNeg = x.toNat := Int32.toNatClampNeg_ofInt_of_le (by have := hr.1; omega) (by have := hr.2; omega)
  refine ⟨?_, hc⟩
  rw [vp_in_iff, i32_toInt hr]
  omega
theorem inR_of {x : Int} (h0 : -2147483648 ≤ x) (h1 : x ≤ 2147483647) : inR x := ⟨h0, h1⟩
theorem inR_ix {x n : Int} (h : 0 ≤ x ∧ x < n) (hn : n ≤ 2147483647) : inR x := ⟨by omega, by omega⟩
theorem inR_min {x y : Int} (hx : inR x) (hy : inR y) : inR (min x y) := ⟨by have := hx.1; have := hy.1; omega, by have := hx.2; have := hy.2; omega⟩
theorem i32_min {x y : Int} (hx : inR x) (hy : inR y) : (if i32 y < i32 x then i32 y else i32 x) = i32 (min x y) := by
  by_cases h : y < x
  · rw [if_pos ((i32_lt hy hx).mpr h)]; congr 1; omega
  · rw [if_neg (fun q => h ((i32_lt hy hx).mp q))]; congr 1; omega
theorem i32_div {x y : Int} (hx : inR x) (h0 : 0 ≤ x) (hy : inR y) (hy0 : 0 < y) : i32 x / i32 y = i32 (x / y) := by
  apply Int32.toInt_inj.mp
  have hq : inR (x / y) := by
    have h1 : 0 ≤ x / y := Int.ediv_nonneg h0 (by omega)
    have h2 : x / y ≤ x := Int.ediv_le_self y h0
    have h3 := hx.2
    exact ⟨by omega, by omega⟩
  rw [Int32.toInt_div_of_ne_right _ _ (fun q => by have := (Int32.toInt_inj.mpr q); rw [i32_toInt hy] at this; have e : (-1 : Int32).toInt = -1 := by decide
                                                   rw [e] at this; omega), i32_toInt hx, i32_toInt hy, i32_toInt hq, Int.tdiv_eq_ediv_of_nonneg h0]
theorem i32_rem {x y : Int} (hx : inR x) (h0 : 0 ≤ x) (hy : inR y) (hy0 : 0 < y) : i32 x - i32 x / i32 y * i32 y = i32 (x % y) := by
  rw [i32_div hx h0 hy hy0, ← Int32.ofInt_mul, ← Int32.ofInt_sub, Int.emod_def, Int.mul_comm]
/-- the other one of a pair -/
def pr1 (x : Int) : Int := if x % 2 = 0 then x + 1 else x - 1
theorem i32_xor1 {x : Int} (hx : inR x) (h0 : 0 ≤ x) : i32 x ^^^ i32 1 = i32 (pr1 x) := by
  obtain ⟨n, rfl⟩ := Int.eq_ofNat_of_zero_le h0
  have hn : n < 2 ^ 31 := by have := hx.2; omega
  have e1 : (i32 (n : Int)).toBitVec = BitVec.ofNat 32 n := by simp [i32, Int32.toBitVec_ofInt]
  have e2 : (i32 1).toBitVec = BitVec.ofNat 32 1 := by decide
  have key : pr1 (n : Int) = ((n ^^^ 1 : Nat) : Int) := by
    unfold pr1
    rcases Nat.mod_two_eq_zero_or_one n with h | h
    · have : n ^^^ 1 = n + 1 := by
        apply Nat.eq_of_testBit_eq
        intro i
        rw [Nat.testBit_xor]
        cases i with
        | zero => simp [Nat.testBit_zero, h]; omega
        | succ i => simp [Nat.testBit_succ]; congr 1; omega
      rw [this]
      split <;> omega
    · have : n ^^^ 1 = n - 1 := by
        apply Nat.eq_of_testBit_eq
        intro i
        rw [Nat.testBit_xor]
        cases i with
        | zero => simp [Nat.testBit_zero, h]; omega
        | succ i => simp [Nat.testBit_succ]; congr 1; omega
      rw [this]
      split <;> omega
  rw [key]
  apply Int32.toBitVec.inj
  rw [Int32.toBitVec_xor, e1, e2]
  apply BitVec.eq_of_toNat_eq
  have hx2 : n ^^^ 1 < 2 ^ 32 := Nat.xor_lt_two_pow (by omega) (by omega)
  simp [i32, Int32.toBitVec_ofInt, Nat.mod_eq_of_lt hx2, Nat.mod_eq_of_lt (show n < 4294967296 by omega)]
abbrev Mem : Type := Int → Int → Int
def mset (M : Mem) (k i x : Int) : Mem := fun a j => if a = k ∧ j = i then x else M a j
def msetr (M : Mem) (k : Int) (f : Int → Int) : Mem := fun a j => if a = k then f j else M a j
/-- n places of row r0 over row r1 -/
def mcopy (M : Mem) (r0 r1 n : Int) : Mem := msetr M r1 (fun j => if 0 ≤ j ∧ j < n then M r0 j else M r1 j)
def rowf (M : Mem) (k : Nat) : Nat → Int32 := fun j => i32 (M k j)
def Rng (M : Mem) : Prop := ∀ a j, inR (M a j)
theorem mset_s {M : Mem} {k i x : Int} : mset M k i x k i = x := if_pos ⟨rfl, rfl⟩
theorem mset_r {M : Mem} {k i x a j : Int} (h : a ≠ k) : mset M k i x a j = M a j := if_neg (fun q => h q.1)
theorem mset_i {M : Mem} {k i x a j : Int} (h : j ≠ i) : mset M k i x a j = M a j := if_neg (fun q => h q.2)
theorem msetr_s {M : Mem} {k : Int} {f : Int → Int} {j : Int} : msetr M k f k j = f j := if_pos rfl
theorem msetr_n {M : Mem} {k a : Int} {f : Int → Int} {j : Int} (h : a ≠ k) : msetr M k f a j = M a j := if_neg h
theorem mset_R {M : Mem} {k i x : Int} (h : Rng M) (hx : inR x) : Rng (mset M k i x) := fun a j => by
  unfold mset
  split
  · exact hx
  · exact h a j
theorem msetr_R {M : Mem} {k : Int} {f : Int → Int} (h : Rng M) (hx : ∀ j, inR (f j)) : Rng (msetr M k f) := fun a j => by
  unfold msetr
  split
  · exact hx j
  · exact h a j
theorem rowf_set {M : Mem} {k : Nat} {i x : Int} (h : 0 ≤ i) : rowf (mset M k i x) k = upd (rowf M k) i.toNat (i32 x) := by
  funext j
  unfold rowf upd mset
  by_cases hj : j = i.toNat
  · rw [if_pos hj, if_pos ⟨rfl, by omega⟩]
  · rw [if_neg hj, if_neg (fun q => hj (by have := q.2; omega))]
theorem rowf_ne {M : Mem} {k k2 : Nat} {i x : Int} (h : k2 ≠ k) : rowf (mset M k i x) k2 = rowf M k2 := by
  funext j
  unfold rowf
  rw [mset_r (fun q => h (by omega))]
theorem rowf_setr {M : Mem} {k : Nat} {f : Int → Int} : rowf (msetr M k f) k = fun j : Nat => i32 (f (j : Int)) := by
  funext j
  unfold rowf
  rw [msetr_s]
theorem rowf_ner {M : Mem} {k k2 : Nat} {f : Int → Int} (h : k2 ≠ k) : rowf (msetr M k f) k2 = rowf M k2 := by
  funext j
  unfold rowf
  rw [msetr_n (fun q => h (by omega))]
/-- the cells of a world -/
def gw (N : Nat) (ad : Int → Nat) (cell : Nat → (Nat → Int32) → va_E) (M : Mem) : va_W := (List.range N).map (fun k : Nat => (ad (k : Int), cell k (rowf M k)))
theorem gw_get {N : Nat} {ad : Int → Nat} {cell : Nat → (Nat → Int32) → va_E} {M : Mem} {k : Nat} (h : k < N) : (gw N ad cell M)[k]? = some (ad k, cell k (rowf M k)) := by
  simp [gw, h]
theorem gw_get' {N : Nat} {ad : Int → Nat} {cell : Nat → (Nat → Int32) → va_E} {M : Mem} {k : Nat} {q : Nat × va_E} (h : (gw N ad cell M)[k]? = some q) : k < N ∧ q = (ad k, cell k (rowf M k)) := by
  by_cases hk : k < N
  · rw [gw_get hk] at h
    exact ⟨hk, (Option.some.inj h).symm⟩
  · rw [List.getElem?_eq_none (by simp [gw]; omega)] at h
    cases h
theorem gw_set {N : Nat} {ad : Int → Nat} {cell : Nat → (Nat → Int32) → va_E} {M M' : Mem} {k : Nat} {e : va_E} (h : k < N) (he : e = cell k (rowf M' k)) (ho : ∀ j : Nat, j ≠ k → rowf M' j = rowf M j) : (gw N ad cell M).set k (ad k, e) = gw N ad cell M' := by
  apply List.ext_getElem?
  intro j
  by_cases hj : j = k
  · subst hj
    rw [List.getElem?_set_self (by simp [gw]; exact h), gw_get h, he]
  · rw [List.getElem?_set_ne (Ne.symm hj)]
    by_cases hjN : j < N
    · rw [gw_get hjN, gw_get hjN, ho j hj]
    · rw [List.getElem?_eq_none (by simp [gw]; omega), List.getElem?_eq_none (by simp [gw]; omega)]
def AG (N : Nat) (ad : Int → Nat) (sz : Nat) : Nat → Prop := fun q => (∃ k : Nat, k < N ∧ q = ad k) ∨ sz ≤ q
def InG (D : va_G) (tys : List (ClassId × FieldType)) (N : Nat) (ad : Int → Nat) (cell : Nat → (Nat → Int32) → va_E) (s : State) (M : Mem) (H : Heap) (locs : List Loc) : Prop :=
  va_K D vwCl tys s ∧ va_P D vwCl (gw N ad cell M) H ∧ va_D (AG N ad s.heap.size) (gw N ad cell M) ∧ va_S (AG N ad s.heap.size) s.heap H locs ∧ Rng M
def PreG (D : va_G) (tys : List (ClassId × FieldType)) (N : Nat) (ad : Int → Nat) (cell : Nat → (Nat → Int32) → va_E) (M : Mem) (sz : Nat) (U : State) : Prop :=
  U.heap.size = sz ∧ va_P D vwCl (gw N ad cell M) U.heap ∧ va_K D vwCl tys U ∧ va_D (fun _ => True) (gw N ad cell M) ∧ Rng M
def BG (D : va_G) (tys : List (ClassId × FieldType)) (N : Nat) (ad : Int → Nat) (cell : Nat → (Nat → Int32) → va_E) (sz : Nat) (M : Mem) (t : State) : Prop :=
  va_P D vwCl (gw N ad cell M) t.heap ∧ va_K D vwCl tys t ∧ va_D (AG N ad sz) (gw N ad cell M) ∧ Rng M
/-- a post of whole numbers, of the machine's ints -/
def pI (post : Int → Mem → Prop) : Int32 → Mem → Prop := fun r M => ∃ x, r = i32 x ∧ inR x ∧ post x M
abbrev MetI (l : Launch) (y : MethodName) (ws : List Cond) (rm : Room) (D : va_G) (tys : List (ClassId × FieldType)) (N : Nat) (ad : Int → Nat) (cell : Nat → (Nat → Int32) → va_E) (av : List Value) (M : Mem) (sz : Nat) (post : Int → Mem → Prop) : Prop :=
  Met l y ws rm (va_Pc av (PreG D tys N ad cell M sz)) (va_Qi (pI post) (BG D tys N ad cell sz) (AG N ad sz)) 0 0 (AG N ad sz)
abbrev MetV (l : Launch) (y : MethodName) (ws : List Cond) (rm : Room) (D : va_G) (tys : List (ClassId × FieldType)) (N : Nat) (ad : Int → Nat) (cell : Nat → (Nat → Int32) → va_E) (av : List Value) (M : Mem) (sz : Nat) (post : Mem → Prop) : Prop :=
  Met l y ws rm (va_Pc av (PreG D tys N ad cell M sz)) (va_Qv post (BG D tys N ad cell sz) (AG N ad sz)) 0 0 (AG N ad sz)
abbrev QI (below : List Frame) (args : Array Value) (s : State) (D : va_G) (tys : List (ClassId × FieldType)) (N : Nat) (ad : Int → Nat) (cell : Nat → (Nat → Int32) → va_E) (post : Int → Mem → Prop) : State → Prop :=
  MQ below (va_Qi (pI post) (BG D tys N ad cell s.heap.size) (AG N ad s.heap.size)) args s 0 0 (AG N ad s.heap.size)
abbrev QV (below : List Frame) (args : Array Value) (s : State) (D : va_G) (tys : List (ClassId × FieldType)) (N : Nat) (ad : Int → Nat) (cell : Nat → (Nat → Int32) → va_E) (post : Mem → Prop) : State → Prop :=
  MQ below (va_Qv post (BG D tys N ad cell s.heap.size) (AG N ad s.heap.size)) args s 0 0 (AG N ad s.heap.size)
theorem InG.start {D : va_G} {tys : List (ClassId × FieldType)} {N : Nat} {ad : Int → Nat} {cell : Nat → (Nat → Int32) → va_E} {s : State} {M : Mem} (h : PreG D tys N ad cell M s.heap.size s) : InG D tys N ad cell s M s.heap [] := by
  obtain ⟨-, hP, hK, hD, hR⟩ := h
  refine ⟨hK, hP, ⟨hD.1, fun k q hq => ?_⟩, va_S.rf, hR⟩
  obtain ⟨h1, h2⟩ := gw_get' hq
  exact Or.inl ⟨k, h1, by rw [h2]⟩
theorem PreG.blind {D : va_G} {tys : List (ClassId × FieldType)} {N : Nat} {ad : Int → Nat} {cell : Nat → (Nat → Int32) → va_E} {M : Mem} {sz : Nat} {av : List Value} : FrameBlind (va_Pc av (PreG D tys N ad cell M sz)) := by
  intro a U g mk q
  obtain ⟨q0, q1, qP, qK, qD⟩ := q
  exact ⟨q0, q1, qP, va_K.moved (u := U) (U := U.calling g mk a) (Vm.Alike.refl U.vm) qK, qD⟩
section MB
variable {p : Program} {l : Launch} {e : Env} {R : Room} {s : State} {m : MethodId} {args : Array Value} {below : List Frame} {meth : Method} {c : Code} {H : Heap} {locs : List Loc} {cells slots : Nat} {Q : State → Prop}
variable {cc : ByteArray} {pc : Nat} {ls : Array Slot} {rest : List Value} {D : va_G} {tys : List (ClassId × FieldType)} {N : Nat} {ad : Int → Nat} {cell : Nat → (Nat → Int32) → va_E} {M : Mem}
/-! the machine's arithmetic over whole numbers -/
theorem li_iconst (hx : p.tables.exec = Jvm.exec) (hb : c.code = cc) {n : Int} (hdg : decode cc pc = .ok (.iconst n, 1))
    (k : W p l e R s m args below meth c H locs cells slots Q (F0 m (pc + 1) ls (.int (i32 n) :: rest))) : W p l e R s m args below meth c H locs cells slots Q (F0 m pc ls rest) := lv_iconst hx hb hdg rfl k
theorem li_iadd (hx : p.tables.exec = Jvm.exec) (hb : c.code = cc) {x y : Int} (hdg : decode cc pc = .ok (.iadd, 1))
    (k : W p l e R s m args below meth c H locs cells slots Q (F0 m (pc + 1) ls (.int (i32 (x + y)) :: rest))) : W p l e R s m args below meth c H locs cells slots Q (F0 m pc ls (.int (i32 y) :: .int (i32 x) :: rest)) := lv_iadd hx hb hdg (by rw [← Int32.ofInt_add]; exact k)
theorem li_isub (hx : p.tables.exec = Jvm.exec) (hb : c.code = cc) {x y : Int} (hdg : decode cc pc = .ok (.isub, 1))
    (k : W p l e R s m args below meth c H locs cells slots Q (F0 m (pc + 1) ls (.int (i32 (x - y)) :: rest))) : W p l e R s m args below meth c H locs cells slots Q (F0 m pc ls (.int (i32 y) :: .int (i32 x) :: rest)) := lv_isub hx hb hdg (by rw [← Int32.ofInt_sub]; exact k)
theorem li_imul (hx : p.tables.exec = Jvm.exec) (hb : c.code = cc) {x y : Int} (hdg : decode cc pc = .ok (.imul, 1))
    (k : W p l e R s m args below meth c H locs cells slots Q (F0 m (pc + 1) ls (.int (i32 (x * y)) :: rest))) : W p l e R s m args below meth c H locs cells slots Q (F0 m pc ls (.int (i32 y) :: .int (i32 x) :: rest)) := lv_imul hx hb hdg (by rw [← Int32.ofInt_mul]; exact k)
theorem li_ineg (hx : p.tables.exec = Jvm.exec) (hb : c.code = cc) {x : Int} (hdg : decode cc pc = .ok (.ineg, 1))
    (k : W p l e R s m args below meth c H locs cells slots Q (F0 m (pc + 1) ls (.int (i32 (-x)) :: rest))) : W p l e R s m args below meth c H locs cells slots Q (F0 m pc ls (.int (i32 x) :: rest)) := lv_ineg hx hb hdg (by rw [← Int32.ofInt_neg]; exact k)
theorem li_idiv (hx : p.tables.exec = Jvm.exec) (hb : c.code = cc) {x y : Int} (hdg : decode cc pc = .ok (.idiv, 1)) (hxr : inR x) (h0 : 0 ≤ x) (hyr : inR y) (hy : 0 < y)
    (k : W p l e R s m args below meth c H locs cells slots Q (F0 m (pc + 1) ls (.int (i32 (x / y)) :: rest))) : W p l e R s m args below meth c H locs cells slots Q (F0 m pc ls (.int (i32 y) :: .int (i32 x) :: rest)) :=
  lv_idiv hx hb hdg (fun q => by have := (i32_eq hyr (show inR 0 by decide)).mp q; omega) (by rw [i32_div hxr h0 hyr hy]; exact k)
theorem li_irem (hx : p.tables.exec = Jvm.exec) (hb : c.code = cc) {x y : Int} (hdg : decode cc pc = .ok (.irem, 1)) (hxr : inR x) (h0 : 0 ≤ x) (hyr : inR y) (hy : 0 < y)
    (k : W p l e R s m args below meth c H locs cells slots Q (F0 m (pc + 1) ls (.int (i32 (x % y)) :: rest))) : W p l e R s m args below meth c H locs cells slots Q (F0 m pc ls (.int (i32 y) :: .int (i32 x) :: rest)) :=
  lv_irem hx hb hdg (fun q => by have := (i32_eq hyr (show inR 0 by decide)).mp q; omega) (by rw [i32_rem hxr h0 hyr hy]; exact k)
theorem li_iinc (hx : p.tables.exec = Jvm.exec) (hb : c.code = cc) {i nL k : Nat} {n : Int} {x : Int} {lv lv' : List (Nat × Value)} (hdg : decode cc pc = .ok (.iinc i n, 3)) (h : lv_has ls nL lv) (hk : lv[k]? = some (i, .int (i32 x))) (hn : i < nL) (hl : (i, Value.int (i32 (x + n))) :: lv.filter (fun q => !(q.1 == i) && !(q.1 + 1 == i && q.2.category == 2)) = lv')
    (kk : ∀ ls' : Array Slot, lv_has ls' nL lv' → W p l e R s m args below meth c H locs cells slots Q (F0 m (pc + 3) ls' rest)) : W p l e R s m args below meth c H locs cells slots Q (F0 m pc ls rest) :=
  lv_iinc hx hb hdg h hk (Int32.ofInt_add x n).symm hn hl kk
theorem li_name {x : Int} (k : ∀ y : Int, y = x → W p l e R s m args below meth c H locs cells slots Q (F0 m pc ls (.int (i32 y) :: rest))) : W p l e R s m args below meth c H locs cells slots Q (F0 m pc ls (.int (i32 x) :: rest)) := k x rfl
theorem li_ixor1 (hx : p.tables.exec = Jvm.exec) (hb : c.code = cc) {x : Int} (hdg : decode cc pc = .ok (.ixor, 1)) (hxr : inR x) (h0 : 0 ≤ x)
    (k : W p l e R s m args below meth c H locs cells slots Q (F0 m (pc + 1) ls (.int (i32 (pr1 x)) :: rest))) : W p l e R s m args below meth c H locs cells slots Q (F0 m pc ls (.int (i32 1) :: .int (i32 x) :: rest)) := lv_ixor hx hb hdg (by rw [i32_xor1 hxr h0]; exact k)
/-! branches -/
theorem li_if_eq (hx : p.tables.exec = Jvm.exec) (hb : c.code = cc) {x : Int} {off : Int} {tgt : Nat} (hdg : decode cc pc = .ok (.ifCond .eq off, 3)) (ht : (pc : Int) + off = (tgt : Int)) (hr : inR x)
    (kt : x = 0 → W p l e R s m args below meth c H locs cells slots Q (F0 m tgt ls rest)) (kf : ¬ x = 0 → W p l e R s m args below meth c H locs cells slots Q (F0 m (pc + 3) ls rest)) : W p l e R s m args below meth c H locs cells slots Q (F0 m pc ls (.int (i32 x) :: rest)) :=
  lv_if_eq hx hb hdg ht (fun q => kt ((i32_eq hr (by decide)).mp q)) (fun q => kf (fun z => q ((i32_eq hr (by decide)).mpr z)))
theorem li_if_ne (hx : p.tables.exec = Jvm.exec) (hb : c.code = cc) {x : Int} {off : Int} {tgt : Nat} (hdg : decode cc pc = .ok (.ifCond .ne off, 3)) (ht : (pc : Int) + off = (tgt : Int)) (hr : inR x)
    (kt : ¬ x = 0 → W p l e R s m args below meth c H locs cells slots Q (F0 m tgt ls rest)) (kf : x = 0 → W p l e R s m args below meth c H locs cells slots Q (F0 m (pc + 3) ls rest)) : W p l e R s m args below meth c H locs cells slots Q (F0 m pc ls (.int (i32 x) :: rest)) :=
  lv_if_ne hx hb hdg ht (fun q => kt (fun z => q ((i32_eq hr (by decide)).mpr z))) (fun q => kf ((i32_eq hr (by decide)).mp q))
theorem li_if_lt (hx : p.tables.exec = Jvm.exec) (hb : c.code = cc) {x : Int} {off : Int} {tgt : Nat} (hdg : decode cc pc = .ok (.ifCond .lt off, 3)) (ht : (pc : Int) + off = (tgt : Int)) (hr : inR x)
    (kt : x < 0 → W p l e R s m args below meth c H locs cells slots Q (F0 m tgt ls rest)) (kf : ¬ x < 0 → W p l e R s m args below meth c H locs cells slots Q (F0 m (pc + 3) ls rest)) : W p l e R s m args below meth c H locs cells slots Q (F0 m pc ls (.int (i32 x) :: rest)) :=
  lv_if_lt hx hb hdg ht (fun q => kt ((i32_lt hr (show inR 0 by decide)).mp q)) (fun q => kf (fun z => q ((i32_lt hr (show inR 0 by decide)).mpr z)))
theorem li_if_ge (hx : p.tables.exec = Jvm.exec) (hb : c.code = cc) {x : Int} {off : Int} {tgt : Nat} (hdg : decode cc pc = .ok (.ifCond .ge off, 3)) (ht : (pc : Int) + off = (tgt : Int)) (hr : inR x)
    (kt : 0 ≤ x → W p l e R s m args below meth c H locs cells slots Q (F0 m tgt ls rest)) (kf : ¬ 0 ≤ x → W p l e R s m args below meth c H locs cells slots Q (F0 m (pc + 3) ls rest)) : W p l e R s m args below meth c H locs cells slots Q (F0 m pc ls (.int (i32 x) :: rest)) :=
  lv_if_ge hx hb hdg ht (fun q => kt ((i32_le (show inR 0 by decide) hr).mp q)) (fun q => kf (fun z => q ((i32_le (show inR 0 by decide) hr).mpr z)))
theorem li_if_gt (hx : p.tables.exec = Jvm.exec) (hb : c.code = cc) {x : Int} {off : Int} {tgt : Nat} (hdg : decode cc pc = .ok (.ifCond .gt off, 3)) (ht : (pc : Int) + off = (tgt : Int)) (hr : inR x)
    (kt : 0 < x → W p l e R s m args below meth c H locs cells slots Q (F0 m tgt ls rest)) (kf : ¬ 0 < x → W p l e R s m args below meth c H locs cells slots Q (F0 m (pc + 3) ls rest)) : W p l e R s m args below meth c H locs cells slots Q (F0 m pc ls (.int (i32 x) :: rest)) :=
  lv_if_gt hx hb hdg ht (fun q => kt ((i32_lt (show inR 0 by decide) hr).mp q)) (fun q => kf (fun z => q ((i32_lt (show inR 0 by decide) hr).mpr z)))
theorem li_if_le (hx : p.tables.exec = Jvm.exec) (hb : c.code = cc) {x : Int} {off : Int} {tgt : Nat} (hdg : decode cc pc = .ok (.ifCond .le off, 3)) (ht : (pc : Int) + off = (tgt : Int)) (hr : inR x)
    (kt : x ≤ 0 → W p l e R s m args below meth c H locs cells slots Q (F0 m tgt ls rest)) (kf : ¬ x ≤ 0 → W p l e R s m args below meth c H locs cells slots Q (F0 m (pc + 3) ls rest)) : W p l e R s m args below meth c H locs cells slots Q (F0 m pc ls (.int (i32 x) :: rest)) :=
  lv_if_le hx hb hdg ht (fun q => kt ((i32_le hr (show inR 0 by decide)).mp q)) (fun q => kf (fun z => q ((i32_le hr (show inR 0 by decide)).mpr z)))
theorem li_icmp_eq (hx : p.tables.exec = Jvm.exec) (hb : c.code = cc) {x y : Int} {off : Int} {tgt : Nat} (hdg : decode cc pc = .ok (.if_icmp .eq off, 3)) (ht : (pc : Int) + off = (tgt : Int)) (hr : inR x) (hq : inR y)
    (kt : x = y → W p l e R s m args below meth c H locs cells slots Q (F0 m tgt ls rest)) (kf : ¬ x = y → W p l e R s m args below meth c H locs cells slots Q (F0 m (pc + 3) ls rest)) : W p l e R s m args below meth c H locs cells slots Q (F0 m pc ls (.int (i32 y) :: .int (i32 x) :: rest)) :=
  lv_icmp_eq hx hb hdg ht (fun q => kt ((i32_eq hr hq).mp q)) (fun q => kf (fun z => q ((i32_eq hr hq).mpr z)))
theorem li_icmp_ne (hx : p.tables.exec = Jvm.exec) (hb : c.code = cc) {x y : Int} {off : Int} {tgt : Nat} (hdg : decode cc pc = .ok (.if_icmp .ne off, 3)) (ht : (pc : Int) + off = (tgt : Int)) (hr : inR x) (hq : inR y)
    (kt : ¬ x = y → W p l e R s m args below meth c H locs cells slots Q (F0 m tgt ls rest)) (kf : x = y → W p l e R s m args below meth c H locs cells slots Q (F0 m (pc + 3) ls rest)) : W p l e R s m args below meth c H locs cells slots Q (F0 m pc ls (.int (i32 y) :: .int (i32 x) :: rest)) :=
  lv_icmp_ne hx hb hdg ht (fun q => kt (fun z => q ((i32_eq hr hq).mpr z))) (fun q => kf ((i32_eq hr hq).mp q))
theorem li_icmp_lt (hx : p.tables.exec = Jvm.exec) (hb : c.code = cc) {x y : Int} {off : Int} {tgt : Nat} (hdg : decode cc pc = .ok (.if_icmp .lt off, 3)) (ht : (pc : Int) + off = (tgt : Int)) (hr : inR x) (hq : inR y)
    (kt : x < y → W p l e R s m args below meth c H locs cells slots Q (F0 m tgt ls rest)) (kf : ¬ x < y → W p l e R s m args below meth c H locs cells slots Q (F0 m (pc + 3) ls rest)) : W p l e R s m args below meth c H locs cells slots Q (F0 m pc ls (.int (i32 y) :: .int (i32 x) :: rest)) :=
  lv_icmp_lt hx hb hdg ht (fun q => kt ((i32_lt hr hq).mp q)) (fun q => kf (fun z => q ((i32_lt hr hq).mpr z)))
theorem li_icmp_ge (hx : p.tables.exec = Jvm.exec) (hb : c.code = cc) {x y : Int} {off : Int} {tgt : Nat} (hdg : decode cc pc = .ok (.if_icmp .ge off, 3)) (ht : (pc : Int) + off = (tgt : Int)) (hr : inR x) (hq : inR y)
    (kt : y ≤ x → W p l e R s m args below meth c H locs cells slots Q (F0 m tgt ls rest)) (kf : ¬ y ≤ x → W p l e R s m args below meth c H locs cells slots Q (F0 m (pc + 3) ls rest)) : W p l e R s m args below meth c H locs cells slots Q (F0 m pc ls (.int (i32 y) :: .int (i32 x) :: rest)) :=
  lv_icmp_ge hx hb hdg ht (fun q => kt ((i32_le hq hr).mp q)) (fun q => kf (fun z => q ((i32_le hq hr).mpr z)))
theorem li_icmp_gt (hx : p.tables.exec = Jvm.exec) (hb : c.code = cc) {x y : Int} {off : Int} {tgt : Nat} (hdg : decode cc pc = .ok (.if_icmp .gt off, 3)) (ht : (pc : Int) + off = (tgt : Int)) (hr : inR x) (hq : inR y)
    (kt : y < x → W p l e R s m args below meth c H locs cells slots Q (F0 m tgt ls rest)) (kf : ¬ y < x → W p l e R s m args below meth c H locs cells slots Q (F0 m (pc + 3) ls rest)) : W p l e R s m args below meth c H locs cells slots Q (F0 m pc ls (.int (i32 y) :: .int (i32 x) :: rest)) :=
  lv_icmp_gt hx hb hdg ht (fun q => kt ((i32_lt hq hr).mp q)) (fun q => kf (fun z => q ((i32_lt hq hr).mpr z)))
theorem li_icmp_le (hx : p.tables.exec = Jvm.exec) (hb : c.code = cc) {x y : Int} {off : Int} {tgt : Nat} (hdg : decode cc pc = .ok (.if_icmp .le off, 3)) (ht : (pc : Int) + off = (tgt : Int)) (hr : inR x) (hq : inR y)
    (kt : x ≤ y → W p l e R s m args below meth c H locs cells slots Q (F0 m tgt ls rest)) (kf : ¬ x ≤ y → W p l e R s m args below meth c H locs cells slots Q (F0 m (pc + 3) ls rest)) : W p l e R s m args below meth c H locs cells slots Q (F0 m pc ls (.int (i32 y) :: .int (i32 x) :: rest)) :=
  lv_icmp_le hx hb hdg ht (fun q => kt ((i32_le hr hq).mp q)) (fun q => kf (fun z => q ((i32_le hr hq).mpr z)))
/-! a table of branches: out of it, or at the place k of it -/
theorem li_tabOut (hx : p.tables.exec = Jvm.exec) (hb : c.code = cc) {dflt lo hi : Int} {offs : Array Int} {len : Nat} {x : Int} {tgt : Nat} (hdg : decode cc pc = .ok (.tableswitch dflt lo hi offs, len)) (hr : inR x) (h : x < lo ∨ hi < x) (ht : (pc : Int) + dflt = (tgt : Int))
    (k : W p l e R s m args below meth c H locs cells slots Q (F0 m tgt ls rest)) : W p l e R s m args below meth c H locs cells slots Q (F0 m pc ls (.int (i32 x) :: rest)) :=
  lv_tableOut hx hb hdg (by rw [i32_toInt hr]; exact h) ht k
theorem li_tabIn (hx : p.tables.exec = Jvm.exec) (hb : c.code = cc) {dflt lo hi : Int} {offs : Array Int} {len : Nat} {x : Int} {off : Int} {tgt : Nat} (hdg : decode cc pc = .ok (.tableswitch dflt lo hi offs, len)) (v : Int) (hr : inR v) (h : x = v) (h1 : ¬ v < lo) (h2 : ¬ hi < v) (ho : offs[(v - lo).toNat]? = some off) (ht : (pc : Int) + off = (tgt : Int))
    (k : W p l e R s m args below meth c H locs cells slots Q (F0 m tgt ls rest)) : W p l e R s m args below meth c H locs cells slots Q (F0 m pc ls (.int (i32 x) :: rest)) := by
  subst h
  exact lv_tableIn hx hb hdg (by rw [i32_toInt hr]; exact h1) (by rw [i32_toInt hr]; exact h2) (by rw [i32_toInt hr]; exact ho) ht k
/-! the world: kept over a call -/
theorem InG.pre (I : InG D tys N ad cell s M H locs) {U : State} (hU : U.heap = H) (hW : s.WarmedH U.vm) : PreG D tys N ad cell M H.size U :=
  ⟨by rw [hU], by rw [hU]; exact I.2.1, va_K.moved hW.alike I.1, I.2.2.1.weaken (fun _ _ _ _ => trivial), I.2.2.2.2⟩
theorem InG.rng (I : InG D tys N ad cell s M H locs) (a j : Int) : inR (M a j) := I.2.2.2.2 a j
theorem InG.sub (I : InG D tys N ad cell s M H locs) : ∀ q, AG N ad H.size q → AG N ad s.heap.size q := by
  intro q h
  rcases h with h | h
  · exact Or.inl h
  · exact Or.inr (Nat.le_trans I.2.2.2.1.1 h)
theorem InG.back (I : InG D tys N ad cell s M H locs) {M' : Mem} {t : State} {H1 : Heap} {locs1 : List Loc} (ht : t.heap = H1) (hB : BG D tys N ad cell H.size M' t) (hS : va_S (AG N ad s.heap.size) s.heap H1 locs1) : InG D tys N ad cell s M' H1 locs1 := by
  obtain ⟨hP, hK, hD, hR⟩ := hB
  rw [ht] at hP
  exact ⟨I.1, hP, hD.weaken (fun k q _ h => I.sub _ h), hS, hR⟩
theorem g_iald (hx : p.tables.exec = Jvm.exec) (hb : c.code = cc) (I : InG D tys N ad cell s M H locs) (r : Int) (t0 : Nat) {cA : ClassId} {n : Int} (hr0 : 0 ≤ r) (hr : r < N) (hc : ∀ f, cell r.toNat f = .inl (cA, n.toNat, .inl f)) (hn : n ≤ 2147483647) (ht : tys[t0]? = some (cA, .int)) {i : Int} (hin : 0 ≤ i ∧ i < n) (hdg : decode cc pc = .ok (.iaload, 1))
    (kk : W p l e R s m args below meth c H locs cells slots Q (F0 m (pc + 1) ls (.int (i32 (M r i)) :: rest))) : W p l e R s m args below meth c H locs cells slots Q (F0 m pc ls (.int (i32 i) :: .ref (ad r) :: rest)) := by
  obtain ⟨h1, h2⟩ := i32_in hin.1 hin.2 hn
  have er : ((r.toNat : Nat) : Int) = r := Int.toNat_of_nonneg hr0
  refine va_iald (f := rowf M r.toNat) hx hb I.1 I.2.1 r.toNat t0 (by rw [gw_get (by omega), hc, er]) ht h1 hdg ?_
  have e : rowf M r.toNat (i32 i).toNatClampNeg = i32 (M r i) := by
    unfold rowf
    rw [h2, er, Int.toNat_of_nonneg hin.1]
  rw [e]
  exact kk
theorem g_iast (hx : p.tables.exec = Jvm.exec) (hb : c.code = cc) (I : InG D tys N ad cell s M H locs) (r : Int) (t0 : Nat) {cA : ClassId} {n : Int} (hr0 : 0 ≤ r) (hr : r < N) (hc : ∀ f, cell r.toNat f = .inl (cA, n.toNat, .inl f)) (hn : n ≤ 2147483647) (ht : tys[t0]? = some (cA, .int)) {i x : Int} (hin : 0 ≤ i ∧ i < n) (hxr : inR x) (hdg : decode cc pc = .ok (.iastore, 1))
    (kk : ∀ (H1 : Heap) (locs1 : List Loc), InG D tys N ad cell s (mset M r i x) H1 locs1 → W p l e R s m args below meth c H1 locs1 cells slots Q (F0 m (pc + 1) ls rest)) : W p l e R s m args below meth c H locs cells slots Q (F0 m pc ls (.int (i32 x) :: .int (i32 i) :: .ref (ad r) :: rest)) := by
  obtain ⟨h1, h2⟩ := i32_in hin.1 hin.2 hn
  have er : ((r.toNat : Nat) : Int) = r := Int.toNat_of_nonneg hr0
  refine va_iast (f := rowf M r.toNat) hx hb I.1 I.2.1 I.2.2.1 I.2.2.2.1 r.toNat t0 (by rw [gw_get (by omega), hc, er]) ht h1 hdg (fun H1 locs1 hP hD hS => ?_)
  rw [h2] at hP hD
  have hset : (gw N ad cell M).set r.toNat (ad r, .inl (cA, n.toNat, .inl (upd (rowf M r.toNat) i.toNat (i32 x)))) = gw N ad cell (mset M r i x) := by
    have := gw_set (N := N) (ad := ad) (cell := cell) (M := M) (M' := mset M (r.toNat : Nat) i x) (k := r.toNat) (by omega) rfl (fun j hj => rowf_ne hj)
    rw [rowf_set hin.1, hc, er] at this
    exact this
  rw [hset] at hP hD
  exact kk H1 locs1 ⟨I.1, hP, hD, hS, mset_R I.2.2.2.2 hxr⟩
theorem g_zald (hx : p.tables.exec = Jvm.exec) (hb : c.code = cc) (I : InG D tys N ad cell s M H locs) (r : Int) (t0 : Nat) {cA : ClassId} {n : Int} (hr0 : 0 ≤ r) (hr : r < N) (hc : ∀ f, cell r.toNat f = .inl (cA, n.toNat, .inl f)) (hn : n ≤ 2147483647) (ht : tys[t0]? = some (cA, .boolean)) {i : Int} (hin : 0 ≤ i ∧ i < n) (hdg : decode cc pc = .ok (.baload, 1))
    (kk : W p l e R s m args below meth c H locs cells slots Q (F0 m (pc + 1) ls (.int (i32 (M r i)) :: rest))) : W p l e R s m args below meth c H locs cells slots Q (F0 m pc ls (.int (i32 i) :: .ref (ad r) :: rest)) := by
  obtain ⟨h1, h2⟩ := i32_in hin.1 hin.2 hn
  have er : ((r.toNat : Nat) : Int) = r := Int.toNat_of_nonneg hr0
  refine va_zald (f := rowf M r.toNat) hx hb I.1 I.2.1 r.toNat t0 (by rw [gw_get (by omega), hc, er]) ht h1 hdg ?_
  have e : rowf M r.toNat (i32 i).toNatClampNeg = i32 (M r i) := by
    unfold rowf
    rw [h2, er, Int.toNat_of_nonneg hin.1]
  rw [e]
  exact kk
theorem g_zast (hx : p.tables.exec = Jvm.exec) (hb : c.code = cc) (I : InG D tys N ad cell s M H locs) (r : Int) (t0 : Nat) {cA : ClassId} {n : Int} (hr0 : 0 ≤ r) (hr : r < N) (hc : ∀ f, cell r.toNat f = .inl (cA, n.toNat, .inl f)) (hn : n ≤ 2147483647) (ht : tys[t0]? = some (cA, .boolean)) {i x : Int} (hin : 0 ≤ i ∧ i < n) (hxr : x = 0 ∨ x = 1) (hdg : decode cc pc = .ok (.bastore, 1))
    (kk : ∀ (H1 : Heap) (locs1 : List Loc), InG D tys N ad cell s (mset M r i x) H1 locs1 → W p l e R s m args below meth c H1 locs1 cells slots Q (F0 m (pc + 1) ls rest)) : W p l e R s m args below meth c H locs cells slots Q (F0 m pc ls (.int (i32 x) :: .int (i32 i) :: .ref (ad r) :: rest)) := by
  obtain ⟨h1, h2⟩ := i32_in hin.1 hin.2 hn
  have er : ((r.toNat : Nat) : Int) = r := Int.toNat_of_nonneg hr0
  refine va_zast (f := rowf M r.toNat) hx hb I.1 I.2.1 I.2.2.1 I.2.2.2.1 r.toNat t0 (by rw [gw_get (by omega), hc, er]) ht h1 hdg (fun H1 locs1 hP hD hS => ?_)
  have hnar : vp_nar .boolean (i32 x) = i32 x := by rcases hxr with rfl | rfl <;> decide
  rw [h2, hnar] at hP hD
  have hset : (gw N ad cell M).set r.toNat (ad r, .inl (cA, n.toNat, .inl (upd (rowf M r.toNat) i.toNat (i32 x)))) = gw N ad cell (mset M r i x) := by
    have := gw_set (N := N) (ad := ad) (cell := cell) (M := M) (M' := mset M (r.toNat : Nat) i x) (k := r.toNat) (by omega) rfl (fun j hj => rowf_ne hj)
    rw [rowf_set hin.1, hc, er] at this
    exact this
  rw [hset] at hP hD
  exact kk H1 locs1 ⟨I.1, hP, hD, hS, mset_R I.2.2.2.2 (by rcases hxr with rfl | rfl <;> decide)⟩
theorem g_alen (hx : p.tables.exec = Jvm.exec) (hb : c.code = cc) (I : InG D tys N ad cell s M H locs) (r : Int) (t0 : Nat) {cA : ClassId} {n : Int} {ty : FieldType} (hr0 : 0 ≤ r) (hr : r < N) (hc : ∀ f, cell r.toNat f = .inl (cA, n.toNat, .inl f)) (hn0 : 0 ≤ n) (ht : tys[t0]? = some (cA, ty)) (hdg : decode cc pc = .ok (.arraylength, 1))
    (kk : W p l e R s m args below meth c H locs cells slots Q (F0 m (pc + 1) ls (.int (i32 n) :: rest))) : W p l e R s m args below meth c H locs cells slots Q (F0 m pc ls (.ref (ad r) :: rest)) := by
  have er : ((r.toNat : Nat) : Int) = r := Int.toNat_of_nonneg hr0
  refine va_alen (x := (n.toNat, .inl (rowf M r.toNat))) (v := i32 n) hx hb I.1 I.2.1 r.toNat t0 (by rw [gw_get (by omega), hc, er]) ht ?_ hdg kk
  show Int32.ofNat n.toNat = i32 n
  rw [← Int32.ofInt_eq_ofNat, Int.toNat_of_nonneg hn0]
theorem g_aald (hx : p.tables.exec = Jvm.exec) (hb : c.code = cc) (I : InG D tys N ad cell s M H locs) (r : Int) (t0 : Nat) {cA : ClassId} {n b0 : Int} {ty : FieldType} (hr0 : 0 ≤ r) (hr : r < N) (hc : ∀ f, cell r.toNat f = .inl (cA, n.toNat, .inr (.inr (.inr (.inr (fun i => if i < n.toNat then some (ad (b0 + (i : Int))) else none)))))) (hn : n ≤ 2147483647) (ht : tys[t0]? = some (cA, .array ty)) {i : Int} (hin : 0 ≤ i ∧ i < n) (hdg : decode cc pc = .ok (.aaload, 1))
    (kk : W p l e R s m args below meth c H locs cells slots Q (F0 m (pc + 1) ls (.ref (ad (b0 + i)) :: rest))) : W p l e R s m args below meth c H locs cells slots Q (F0 m pc ls (.int (i32 i) :: .ref (ad r) :: rest)) := by
  obtain ⟨h1, h2⟩ := i32_in hin.1 hin.2 hn
  have er : ((r.toNat : Nat) : Int) = r := Int.toNat_of_nonneg hr0
  have hlt : (i32 i).toNatClampNeg < n.toNat := by rw [h2]; omega
  have ha : (gw N ad cell M)[r.toNat]? = some (ad r, .inl (cA, n.toNat, .inr (.inr (.inr (.inr (fun i => if i < n.toNat then some (ad (b0 + (i : Int))) else none)))))) := by rw [gw_get (by omega), hc, er]
  refine W.aald (v := .ref (ad (b0 + i))) (ty := .array ty) hx hb (I.2.1 r.toNat _ ha) ((I.1.2 t0 _ ht).1 n.toNat (fun j => va_rf (if j < n.toNat then some (ad (b0 + (j : Int))) else none))) rfl (fun q => by cases q) (by show ¬ (i32 i < 0 ∨ (arrV _ _ _).slots.size ≤ _); rw [arrV_size]; exact h1) (by show (arrV _ _ _).slots[_]? = _; rw [arrV_read _ _ hlt]; show some (va_rf (if (i32 i).toNatClampNeg < n.toNat then some (ad (b0 + (((i32 i).toNatClampNeg : Nat) : Int))) else none)) = _; rw [if_pos hlt, h2, Int.toNat_of_nonneg hin.1]; rfl) rfl rfl hdg kk
theorem g_get (hx : p.tables.exec = Jvm.exec) (hb : c.code = cc) {own C : String} {T : u_T} {n ci index : Nat} {Ts : List Cond} (hts : ∀ w ∈ Ts, w.before args s = true) (hin : ∀ w ∈ u_ws C T n, w ∈ Ts) (hown : s.vm.findClass own = some m.cls) (I : InG D tys N ad cell s M H locs) (o : Int) (ho0 : 0 ≤ o) (ho : o < N) {fs : List Value} (he : cell o.toNat (rowf M o.toNat) = .inr (ci, fs)) (hc : vwCl[ci]? = some (C, T, n)) (k : Nat) (hk : k < n) (hlink : Cond.fieldLink own index (T k).1 (T k).2.1 (T k).2.2.1 ∈ Ts) {v : Value} (hv : fs[k]? = some v) (hdg : decode cc pc = .ok (.getfield index, 3))
    (kk : W p l e R s m args below meth c H locs cells slots Q (F0 m (pc + 3) ls (v :: rest))) : W p l e R s m args below meth c H locs cells slots Q (F0 m pc ls (.ref (ad o) :: rest)) :=
  va_get hx hb hts hin hown I.1 I.2.1 o.toNat (by rw [gw_get (by omega), he, Int.toNat_of_nonneg ho0]) hc k hk (hts _ hlink) (fun _ h9 => h9) hv hdg kk
theorem g_put (hx : p.tables.exec = Jvm.exec) (hb : c.code = cc) {own C : String} {T : u_T} {n ci index : Nat} {Ts : List Cond} (hts : ∀ w ∈ Ts, w.before args s = true) (hin : ∀ w ∈ u_ws C T n, w ∈ Ts) (ty0 : Nat → FieldType) (hty : ∀ k, k < n → parseFieldDescriptor (T k).2.2.1 = some (ty0 k)) (hnm : ∀ a, a < n → ∀ b, b < n → a ≠ b → (T a).2.1 ≠ (T b).2.1) (hown : s.vm.findClass own = some m.cls) (I : InG D tys N ad cell s M H locs) (o : Int) (ho0 : 0 ≤ o) (ho : o < N) {fs : List Value} (he : cell o.toNat (rowf M o.toNat) = .inr (ci, fs)) (hc : vwCl[ci]? = some (C, T, n)) (k : Nat) (hk : k < n) (hlink : Cond.fieldLink own index (T k).1 (T k).2.1 (T k).2.2.1 ∈ Ts) (hfin : (T k).2.2.2 = false) {x : Int} (hxr : inR x) (hd : ty0 k = .int) (hl : k < fs.length) (hset : cell o.toNat (upd (rowf M o.toNat) k (i32 x)) = .inr (ci, fs.set k (.int (i32 x)))) (hdg : decode cc pc = .ok (.putfield index, 3))
    (kk : ∀ (H1 : Heap) (locs1 : List Loc), InG D tys N ad cell s (mset M o k x) H1 locs1 → W p l e R s m args below meth c H1 locs1 cells slots Q (F0 m (pc + 3) ls rest)) : W p l e R s m args below meth c H locs cells slots Q (F0 m pc ls (.int (i32 x) :: .ref (ad o) :: rest)) := by
  have eo : ((o.toNat : Nat) : Int) = o := Int.toNat_of_nonneg ho0
  refine va_put (ty := .int) hx hb hts hin ty0 hty hnm hown I.1 I.2.1 I.2.2.1 I.2.2.2.1 o.toNat (by rw [gw_get (by omega), he, eo]) hc k hk (hts _ hlink) (fun _ h9 => h9) hfin (by rw [hty k hk, hd]) rfl rfl hl hdg (fun H1 locs1 hP hD hS => ?_)
  have hs2 : (gw N ad cell M).set o.toNat (ad o, .inr (ci, fs.set k (.int (i32 x)))) = gw N ad cell (mset M o k x) := by
    have := gw_set (N := N) (ad := ad) (cell := cell) (M := M) (M' := mset M (o.toNat : Nat) k x) (k := o.toNat) (by omega) rfl (fun j hj => rowf_ne hj)
    rw [rowf_set (by omega), Int.toNat_natCast, hset, eo] at this
    exact this
  rw [hs2] at hP hD
  exact kk H1 locs1 ⟨I.1, hP, hD, hS, mset_R I.2.2.2.2 hxr⟩
theorem g_iret {post : Int → Mem → Prop} {r : Int} (hx : p.tables.exec = Jvm.exec) (hb : c.code = cc) (hr : meth.sig.returnType = some .int) (hlk : meth.locks = false) (I : InG D tys N ad cell s M H locs) (hrr : inR r) (hp : post r M) (hdg : decode cc pc = .ok (.ireturn, 1)) : W p l e R s m args below meth c H locs 0 0 (QI below args s D tys N ad cell post) (F0 m pc ls [.int (i32 r)]) :=
  W.iret (v := i32 r) hx hb hr (fun t ht hW => ⟨⟨i32 r, M, rfl, ⟨r, rfl, hrr, hp⟩, by rw [ht]; exact I.2.1, va_K.moved hW.alike I.1, I.2.2.1, I.2.2.2.2⟩, I.2.2.2.1.F ht⟩) I.2.2.2.1.2.2 hdg hlk
theorem g_zret {post : Int → Mem → Prop} {r : Int} (hx : p.tables.exec = Jvm.exec) (hb : c.code = cc) (hr : meth.sig.returnType = some .boolean) (hlk : meth.locks = false) (I : InG D tys N ad cell s M H locs) (hrr : r = 0 ∨ r = 1) (hp : post r M) (hdg : decode cc pc = .ok (.ireturn, 1)) : W p l e R s m args below meth c H locs 0 0 (QI below args s D tys N ad cell post) (F0 m pc ls [.int (i32 r)]) :=
  W.zret (v := i32 r) hx hb hr (by rcases hrr with rfl | rfl <;> decide) (fun t ht hW => ⟨⟨i32 r, M, rfl, ⟨r, rfl, by rcases hrr with rfl | rfl <;> decide, hp⟩, by rw [ht]; exact I.2.1, va_K.moved hW.alike I.1, I.2.2.1, I.2.2.2.2⟩, I.2.2.2.1.F ht⟩) I.2.2.2.1.2.2 hdg hlk
theorem g_vret {post : Mem → Prop} (hx : p.tables.exec = Jvm.exec) (hb : c.code = cc) (hr : meth.sig.returnType = none) (hlk : meth.locks = false) (I : InG D tys N ad cell s M H locs) (hp : post M) (hdg : decode cc pc = .ok (.return_, 1)) : W p l e R s m args below meth c H locs 0 0 (QV below args s D tys N ad cell post) (F0 m pc ls []) :=
  W.vret hx hb hr (fun t ht hW => ⟨⟨M, rfl, hp, by rw [ht]; exact I.2.1, va_K.moved hW.alike I.1, I.2.2.1, I.2.2.2.2⟩, I.2.2.2.1.F ht⟩) I.2.2.2.1.2.2 hdg hlk
theorem g_mmin (hx : p.tables.exec = Jvm.exec) (hb : c.code = cc) (hml : c.maxLocals = ls.size) {own : String} {index : Nat} {Ts : List Cond} (hts : ∀ w ∈ Ts, w.before args s = true) (hown : s.vm.findClass own = some m.cls) (h1 : Cond.methodLink own index Lib.Math.min.name ∈ Ts) (h2 : Cond.static Lib.Math.min.name ∈ Ts) (h3 : Cond.initialized "java/lang/Math" ∈ Ts) (h4 : Cond.code Lib.Math.min.name Lib.Math.min.code 2 (some .int) ∈ Ts)
    (hframes : 1 ≤ R.frames) (hlocals : (rest.map fun v => v.category).sum + 13 ≤ R.locals) (hc : cells ≤ R.cells) (hs : slots ≤ R.slots) {x y : Int} (hxr : inR x) (hyr : inR y) (hdg : decode cc pc = .ok (.invokestatic index, 3))
    (kk : W p l e R s m args below meth c H locs cells slots Q (F0 m (pc + 3) ls (.int (i32 (min x y)) :: rest))) : W p l e R s m args below meth c H locs cells slots Q (F0 m pc ls (.int (i32 y) :: .int (i32 x) :: rest)) :=
  va_mmin hx hb hml hown (hts _ h1) (hts _ h2) (hts _ h3) (hts _ h4) hframes hlocals hc hs hdg (by rw [i32_min hxr hyr]; exact kk)
variable {y : MethodName} {bytes : ByteArray} {maxL n index : Nat} {ret : Option FieldType} {wsc : List Cond} {rm : Room} {Ts : List Cond} {own C : String}
theorem g_callVi {post : Int → Mem → Prop} {As : List Value} {st0 : List Value} {o : Int} {nL : Nat} (S : CallFix p m c cc nL s args Ts own) (I : InG D tys N ad cell s M H locs) (hM : MetI l y wsc rm D tys N ad cell (.ref (ad o) :: As) M H.size post) (cw : CallW R s args own C index y bytes maxL ret wsc rm 0 0 n)
    (ho0 : 0 ≤ o) (ho : o < N) {ci : Nat} {fs : List Value} {T : u_T} {nn : Nat} (he : cell o.toNat (rowf M o.toNat) = .inr (ci, fs)) (hc : vwCl[ci]? = some (C, T, nn)) (hn : As.length = n) (hsize : ls.size = nL) (hst : st0 = As.reverse ++ .ref (ad o) :: rest) (hcat : (rest.map fun v => v.category).sum ≤ 8) (hdg : decode cc pc = .ok (.invokevirtual index, 3)) (hf : cells ≤ R.cells ∧ slots ≤ R.slots)
    (kk : ∀ (r : Int) (M' : Mem) (H1 : Heap) (locs1 : List Loc), inR r → post r M' → InG D tys N ad cell s M' H1 locs1 → W p l e R s m args below meth c H1 locs1 cells slots Q (F0 m (pc + 3) ls (.int (i32 r) :: rest))) : W p l e R s m args below meth c H locs cells slots Q (F0 m pc ls st0) := by
  refine va_calli (va_runV (As := As) (rest := rest) (g := F0 m pc ls st0) S hM cw ⟨PreG.blind, va_recv I.1 I.2.1 hc (q0 := o.toNat) (by rw [gw_get (by omega), he, Int.toNat_of_nonneg ho0]), fun U hU hW => ⟨rfl, I.pre hU hW⟩⟩ rfl hn hsize hst (lv_room hcat) hdg hf) I.2.2.2.1 (fun q _ h => I.sub q h) I.sub (fun r M' t H1 locs1 ht hvm hw hB hz1 hk1 hS => ?_)
  obtain ⟨x, rfl, hxr, hp⟩ := hw
  exact kk x M' H1 locs1 hxr hp (I.back ht hB hS)
theorem g_callVv {post : Mem → Prop} {As : List Value} {st0 : List Value} {o : Int} {nL : Nat} (S : CallFix p m c cc nL s args Ts own) (I : InG D tys N ad cell s M H locs) (hM : MetV l y wsc rm D tys N ad cell (.ref (ad o) :: As) M H.size post) (cw : CallW R s args own C index y bytes maxL ret wsc rm 0 0 n)
    (ho0 : 0 ≤ o) (ho : o < N) {ci : Nat} {fs : List Value} {T : u_T} {nn : Nat} (he : cell o.toNat (rowf M o.toNat) = .inr (ci, fs)) (hc : vwCl[ci]? = some (C, T, nn)) (hn : As.length = n) (hsize : ls.size = nL) (hst : st0 = As.reverse ++ .ref (ad o) :: rest) (hcat : (rest.map fun v => v.category).sum ≤ 8) (hdg : decode cc pc = .ok (.invokevirtual index, 3)) (hf : cells ≤ R.cells ∧ slots ≤ R.slots)
    (kk : ∀ (M' : Mem) (H1 : Heap) (locs1 : List Loc), post M' → InG D tys N ad cell s M' H1 locs1 → W p l e R s m args below meth c H1 locs1 cells slots Q (F0 m (pc + 3) ls rest)) : W p l e R s m args below meth c H locs cells slots Q (F0 m pc ls st0) := by
  refine va_callv (va_runV (As := As) (rest := rest) (g := F0 m pc ls st0) S hM cw ⟨PreG.blind, va_recv I.1 I.2.1 hc (q0 := o.toNat) (by rw [gw_get (by omega), he, Int.toNat_of_nonneg ho0]), fun U hU hW => ⟨rfl, I.pre hU hW⟩⟩ rfl hn hsize hst (lv_room hcat) hdg hf) I.2.2.2.1 (fun q _ h => I.sub q h) I.sub (fun M' t H1 locs1 ht hvm hw hB hz1 hk1 hS => ?_)
  exact kk M' H1 locs1 hw (I.back ht hB hS)
theorem g_callSi {post : Int → Mem → Prop} {As : List Value} {st0 : List Value} {nL : Nat} (S : CallFix p m c cc nL s args Ts own) (I : InG D tys N ad cell s M H locs) (hM : MetI l y wsc rm D tys N ad cell As M H.size post) (cw : CallB R s args own index y bytes maxL ret wsc rm 0 0 n ∧ (Cond.static y).before args s = true)
    (hn : As.length = n) (hsize : ls.size = nL) (hst : st0 = As.reverse ++ rest) (hcat : (rest.map fun v => v.category).sum ≤ 8) (hdg : decode cc pc = .ok (.invokestatic index, 3)) (hf : cells ≤ R.cells ∧ slots ≤ R.slots)
    (kk : ∀ (r : Int) (M' : Mem) (H1 : Heap) (locs1 : List Loc), inR r → post r M' → InG D tys N ad cell s M' H1 locs1 → W p l e R s m args below meth c H1 locs1 cells slots Q (F0 m (pc + 3) ls (.int (i32 r) :: rest))) : W p l e R s m args below meth c H locs cells slots Q (F0 m pc ls st0) := by
  refine va_calli (va_runS (As := As) (rest := rest) (g := F0 m pc ls st0) S hM cw ⟨PreG.blind, fun U hU hW => ⟨rfl, I.pre hU hW⟩⟩ rfl hn hsize hst (lv_room hcat) hdg hf) I.2.2.2.1 (fun q _ h => I.sub q h) I.sub (fun r M' t H1 locs1 ht hvm hw hB hz1 hk1 hS => ?_)
  obtain ⟨x, rfl, hxr, hp⟩ := hw
  exact kk x M' H1 locs1 hxr hp (I.back ht hB hS)
theorem g_callSv {post : Mem → Prop} {As : List Value} {st0 : List Value} {nL : Nat} (S : CallFix p m c cc nL s args Ts own) (I : InG D tys N ad cell s M H locs) (hM : MetV l y wsc rm D tys N ad cell As M H.size post) (cw : CallB R s args own index y bytes maxL ret wsc rm 0 0 n ∧ (Cond.static y).before args s = true)
    (hn : As.length = n) (hsize : ls.size = nL) (hst : st0 = As.reverse ++ rest) (hcat : (rest.map fun v => v.category).sum ≤ 8) (hdg : decode cc pc = .ok (.invokestatic index, 3)) (hf : cells ≤ R.cells ∧ slots ≤ R.slots)
    (kk : ∀ (M' : Mem) (H1 : Heap) (locs1 : List Loc), post M' → InG D tys N ad cell s M' H1 locs1 → W p l e R s m args below meth c H1 locs1 cells slots Q (F0 m (pc + 3) ls rest)) : W p l e R s m args below meth c H locs cells slots Q (F0 m pc ls st0) := by
  refine va_callv (va_runS (As := As) (rest := rest) (g := F0 m pc ls st0) S hM cw ⟨PreG.blind, fun U hU hW => ⟨rfl, I.pre hU hW⟩⟩ rfl hn hsize hst (lv_room hcat) hdg hf) I.2.2.2.1 (fun q _ h => I.sub q h) I.sub (fun M' t H1 locs1 ht hvm hw hB hz1 hk1 hS => ?_)
  exact kk M' H1 locs1 hw (I.back ht hB hS)
end MB
end
section
/-! the two worlds, the class's (X) and the reference's (R): which cell is which, how long its row is -/
/-- classes, the class of int arrays, the class of the third kind of arrays, the addresses -/
abbrev GP : Type := va_G × ClassId × ClassId × (Int → Nat)
def lenX (k : Int) : Int := if k < 15 then 0 else if k < 18 then 30 else if k < 19 then 10 else if k < 23 then 30 else if k < 28 then 10 else if k < 36 then 240 else if k < 40 then 22 else if k < 88 then 10 else 0
def lenR (k : Int) : Int := if k = 1 then 30 else if k = 2 then 30 else if k = 3 then 30 else if k = 4 then 80 else if k = 5 then 10 else if k = 6 then 100 else if k = 7 then 30 else if k = 8 then 30 else if k = 9 then 30 else if k = 10 then 100 else if k = 11 then 100 else if k = 12 then 10 else if k = 13 then 10 else if k = 14 then 10 else if k = 15 then 20 else if k = 16 then 20 else if k = 17 then 100 else if k = 18 then 20 else if k = 19 then 20 else if k = 20 then 200 else if k = 21 then 200 else if k = 22 then 200 else if k = 23 then 200 else if k = 24 then 22 else if k = 25 then 22 else 0
def obX (g : GP) (k : Nat) (f : Nat → Int32) : va_E := match k with
  | 0 => .inr (8, [.ref (g.2.2.2 1), .ref (g.2.2.2 2), .ref (g.2.2.2 3), .ref (g.2.2.2 4), .ref (g.2.2.2 5), .ref (g.2.2.2 6), .ref (g.2.2.2 7), .int (f 7), .int (f 8), .int (f 9), .int (f 10), .int (f 11)])
  | 1 => .inr (3, [.int (f 0), .int (f 1), .ref (g.2.2.2 15), .ref (g.2.2.2 16), .ref (g.2.2.2 17), .ref (g.2.2.2 18), .ref (g.2.2.2 10), .ref (g.2.2.2 11)])
  | 2 => .inr (2, [.int (f 0), .ref (g.2.2.2 12)])
  | 3 => .inr (0, [.int (f 0), .int (f 1), .ref (g.2.2.2 19), .ref (g.2.2.2 20), .ref (g.2.2.2 21), .ref (g.2.2.2 22)])
  | 4 => .inr (1, [.ref (g.2.2.2 13)])
  | 5 => .inr (4, [.ref (g.2.2.2 (8 + 0))])
  | 6 => .inr (6, [.ref (g.2.2.2 14), .ref (g.2.2.2 23), .ref (g.2.2.2 24), .ref (g.2.2.2 25), .ref (g.2.2.2 26)])
  | 7 => .inr (7, [.int (f 0), .ref (g.2.2.2 27), .ref (g.2.2.2 (8 + 1))])
  | 8 => .inr (5, [.int (f 0), .int (f 1), .int (f 2), .ref (g.2.2.2 (28 + 0)), .ref (g.2.2.2 (30 + 0)), .ref (g.2.2.2 (32 + 0)), .ref (g.2.2.2 (34 + 0)), .ref (g.2.2.2 (36 + 0)), .ref (g.2.2.2 (38 + 0))])
  | 9 => .inr (5, [.int (f 0), .int (f 1), .int (f 2), .ref (g.2.2.2 (28 + 1)), .ref (g.2.2.2 (30 + 1)), .ref (g.2.2.2 (32 + 1)), .ref (g.2.2.2 (34 + 1)), .ref (g.2.2.2 (36 + 1)), .ref (g.2.2.2 (38 + 1))])
  | 10 => .inl (g.2.2.1, 10, .inr (.inr (.inr (.inr (fun i => if i < 10 then some (g.2.2.2 (40 + (i : Int))) else none)))))
  | 11 => .inl (g.2.2.1, 10, .inr (.inr (.inr (.inr (fun i => if i < 10 then some (g.2.2.2 (50 + (i : Int))) else none)))))
  | 12 => .inl (g.2.2.1, 8, .inr (.inr (.inr (.inr (fun i => if i < 8 then some (g.2.2.2 (80 + (i : Int))) else none)))))
  | 13 => .inl (g.2.2.1, 10, .inr (.inr (.inr (.inr (fun i => if i < 10 then some (g.2.2.2 (60 + (i : Int))) else none)))))
  | _ => .inl (g.2.2.1, 10, .inr (.inr (.inr (.inr (fun i => if i < 10 then some (g.2.2.2 (70 + (i : Int))) else none)))))
def cellX (g : GP) (k : Nat) (f : Nat → Int32) : va_E := if k < 15 then obX g k f else .inl (g.2.1, (lenX k).toNat, .inl f)
def cellR (g : GP) (k : Nat) (f : Nat → Int32) : va_E := if k = 0 then .inr (9, [.int (f 0), .int (f 1), .ref (g.2.2.2 1), .ref (g.2.2.2 2), .ref (g.2.2.2 3), .int (f 5), .ref (g.2.2.2 4), .ref (g.2.2.2 5), .ref (g.2.2.2 6), .int (f 9), .int (f 10), .ref (g.2.2.2 7), .ref (g.2.2.2 8), .ref (g.2.2.2 9), .ref (g.2.2.2 10), .ref (g.2.2.2 11), .ref (g.2.2.2 12), .ref (g.2.2.2 13), .ref (g.2.2.2 14), .ref (g.2.2.2 15), .ref (g.2.2.2 16), .ref (g.2.2.2 17), .ref (g.2.2.2 18), .ref (g.2.2.2 19), .int (f 24), .ref (g.2.2.2 20), .ref (g.2.2.2 21), .ref (g.2.2.2 22), .ref (g.2.2.2 23), .ref (g.2.2.2 24), .ref (g.2.2.2 25)]) else .inl (if k = 17 ∨ k = 18 then g.2.2.1 else g.2.1, (lenR k).toNat, .inl f)
abbrev tyX (g : GP) : List (ClassId × FieldType) := [(g.2.1, .int), (g.2.2.1, .array .int)]
abbrev tyR (g : GP) : List (ClassId × FieldType) := [(g.2.1, .int), (g.2.2.1, .boolean)]
abbrev IX (g : GP) (s : State) (M : Mem) (H : Heap) (locs : List Loc) : Prop := InG g.1 (tyX g) 88 g.2.2.2 (cellX g) s M H locs
abbrev QIX (below : List Frame) (args : Array Value) (s : State) (g : GP) (post : Int → Mem → Prop) : State → Prop := QI below args s g.1 (tyX g) 88 g.2.2.2 (cellX g) post
abbrev QVX (below : List Frame) (args : Array Value) (s : State) (g : GP) (post : Mem → Prop) : State → Prop := QV below args s g.1 (tyX g) 88 g.2.2.2 (cellX g) post
abbrev MIX (l : Launch) (y : MethodName) (ws : List Cond) (rm : Room) (g : GP) (av : List Value) (M : Mem) (sz : Nat) (post : Int → Mem → Prop) : Prop := MetI l y ws rm g.1 (tyX g) 88 g.2.2.2 (cellX g) av M sz post
abbrev MVX (l : Launch) (y : MethodName) (ws : List Cond) (rm : Room) (g : GP) (av : List Value) (M : Mem) (sz : Nat) (post : Mem → Prop) : Prop := MetV l y ws rm g.1 (tyX g) 88 g.2.2.2 (cellX g) av M sz post
abbrev IR (g : GP) (s : State) (M : Mem) (H : Heap) (locs : List Loc) : Prop := InG g.1 (tyR g) 26 g.2.2.2 (cellR g) s M H locs
abbrev QIR (below : List Frame) (args : Array Value) (s : State) (g : GP) (post : Int → Mem → Prop) : State → Prop := QI below args s g.1 (tyR g) 26 g.2.2.2 (cellR g) post
abbrev QVR (below : List Frame) (args : Array Value) (s : State) (g : GP) (post : Mem → Prop) : State → Prop := QV below args s g.1 (tyR g) 26 g.2.2.2 (cellR g) post
abbrev MIR (l : Launch) (y : MethodName) (ws : List Cond) (rm : Room) (g : GP) (av : List Value) (M : Mem) (sz : Nat) (post : Int → Mem → Prop) : Prop := MetI l y ws rm g.1 (tyR g) 26 g.2.2.2 (cellR g) av M sz post
abbrev MVR (l : Launch) (y : MethodName) (ws : List Cond) (rm : Room) (g : GP) (av : List Value) (M : Mem) (sz : Nat) (post : Mem → Prop) : Prop := MetV l y ws rm g.1 (tyR g) 26 g.2.2.2 (cellR g) av M sz post
abbrev Cx (p : Program) (m : MethodId) (c : Code) (cc : ByteArray) (nL : Nat) (s : State) (args : Array Value) (Ts : List Cond) (own : String) (meth : Method) (ret : Option FieldType) : Prop := CallFix p m c cc nL s args Ts own ∧ meth.sig.returnType = ret ∧ meth.locks = false
theorem lenX_in {k : Int} (h : 0 < lenX k) : 15 ≤ k ∧ k < 88 := by
  unfold lenX at h
  repeat' split at h
  all_goals omega
theorem lenX_le (k : Int) : 0 ≤ lenX k ∧ lenX k ≤ 240 := by
  unfold lenX
  repeat' split
  all_goals omega
theorem lenR_in {k : Int} (h : 0 < lenR k) : 1 ≤ k ∧ k < 26 := by
  unfold lenR at h
  repeat' split at h
  all_goals omega
theorem lenR_le (k : Int) : 0 ≤ lenR k ∧ lenR k ≤ 200 := by
  unfold lenR
  repeat' split
  all_goals omega
theorem lenX_15 : lenX 15 = 30 := by decide
theorem lenX_16 : lenX 16 = 30 := by decide
theorem lenX_17 : lenX 17 = 30 := by decide
theorem lenX_18 : lenX 18 = 10 := by decide
theorem lenX_19 : lenX 19 = 30 := by decide
theorem lenX_20 : lenX 20 = 30 := by decide
theorem lenX_21 : lenX 21 = 30 := by decide
theorem lenX_22 : lenX 22 = 30 := by decide
theorem lenX_23 : lenX 23 = 10 := by decide
theorem lenX_24 : lenX 24 = 10 := by decide
theorem lenX_25 : lenX 25 = 10 := by decide
theorem lenX_26 : lenX 26 = 10 := by decide
theorem lenX_27 : lenX 27 = 10 := by decide
theorem lenX_28 {z : Int} (h : z = 0 ∨ z = 1) : lenX (28 + z) = 240 := by rcases h with rfl | rfl <;> decide
theorem lenX_30 {z : Int} (h : z = 0 ∨ z = 1) : lenX (30 + z) = 240 := by rcases h with rfl | rfl <;> decide
theorem lenX_32 {z : Int} (h : z = 0 ∨ z = 1) : lenX (32 + z) = 240 := by rcases h with rfl | rfl <;> decide
theorem lenX_34 {z : Int} (h : z = 0 ∨ z = 1) : lenX (34 + z) = 240 := by rcases h with rfl | rfl <;> decide
theorem lenX_36 {z : Int} (h : z = 0 ∨ z = 1) : lenX (36 + z) = 22 := by rcases h with rfl | rfl <;> decide
theorem lenX_38 {z : Int} (h : z = 0 ∨ z = 1) : lenX (38 + z) = 22 := by rcases h with rfl | rfl <;> decide
theorem lenX_40 {u : Int} (h : 0 ≤ u ∧ u < 10) : lenX (40 + u) = 10 := by
  unfold lenX
  repeat' split
  all_goals omega
theorem lenX_50 {u : Int} (h : 0 ≤ u ∧ u < 10) : lenX (50 + u) = 10 := by
  unfold lenX
  repeat' split
  all_goals omega
theorem lenX_60 {u : Int} (h : 0 ≤ u ∧ u < 10) : lenX (60 + u) = 10 := by
  unfold lenX
  repeat' split
  all_goals omega
theorem lenX_70 {u : Int} (h : 0 ≤ u ∧ u < 10) : lenX (70 + u) = 10 := by
  unfold lenX
  repeat' split
  all_goals omega
theorem lenX_80 {u : Int} (h : 0 ≤ u ∧ u < 8) : lenX (80 + u) = 10 := by
  unfold lenX
  repeat' split
  all_goals omega
theorem lenR_1 : lenR 1 = 30 := by decide
theorem lenR_2 : lenR 2 = 30 := by decide
theorem lenR_3 : lenR 3 = 30 := by decide
theorem lenR_4 : lenR 4 = 80 := by decide
theorem lenR_5 : lenR 5 = 10 := by decide
theorem lenR_6 : lenR 6 = 100 := by decide
theorem lenR_7 : lenR 7 = 30 := by decide
theorem lenR_8 : lenR 8 = 30 := by decide
theorem lenR_9 : lenR 9 = 30 := by decide
theorem lenR_10 : lenR 10 = 100 := by decide
theorem lenR_11 : lenR 11 = 100 := by decide
theorem lenR_12 : lenR 12 = 10 := by decide
theorem lenR_13 : lenR 13 = 10 := by decide
theorem lenR_14 : lenR 14 = 10 := by decide
theorem lenR_15 : lenR 15 = 20 := by decide
theorem lenR_16 : lenR 16 = 20 := by decide
theorem lenR_17 : lenR 17 = 100 := by decide
theorem lenR_18 : lenR 18 = 20 := by decide
theorem lenR_19 : lenR 19 = 20 := by decide
theorem lenR_20 : lenR 20 = 200 := by decide
theorem lenR_21 : lenR 21 = 200 := by decide
theorem lenR_22 : lenR 22 = 200 := by decide
theorem lenR_23 : lenR 23 = 200 := by decide
theorem lenR_24 : lenR 24 = 22 := by decide
theorem lenR_25 : lenR 25 = 22 := by decide
theorem cellX_row {g : GP} {r : Int} (h : 15 ≤ r) (f : Nat → Int32) : cellX g r.toNat f = .inl (g.2.1, (lenX r).toNat, .inl f) := by
  unfold cellX
  rw [if_neg (by omega), Int.toNat_of_nonneg (by omega)]
theorem cellR_row {g : GP} {r : Int} (h : 1 ≤ r) (h1 : r ≠ 17) (h2 : r ≠ 18) (f : Nat → Int32) : cellR g r.toNat f = .inl (g.2.1, (lenR r).toNat, .inl f) := by
  unfold cellR
  rw [if_neg (by omega), if_neg (by omega), Int.toNat_of_nonneg (by omega)]
theorem cellR_rowZ {g : GP} {r : Int} (h : r = 17 ∨ r = 18) (f : Nat → Int32) : cellR g r.toNat f = .inl (g.2.2.1, (lenR r).toNat, .inl f) := by
  rcases h with rfl | rfl <;> rfl
theorem obX_0 {g : GP} {f : Nat → Int32} : cellX g (0 : Int).toNat f = .inr (8, [.ref (g.2.2.2 1), .ref (g.2.2.2 2), .ref (g.2.2.2 3), .ref (g.2.2.2 4), .ref (g.2.2.2 5), .ref (g.2.2.2 6), .ref (g.2.2.2 7), .int (f 7), .int (f 8), .int (f 9), .int (f 10), .int (f 11)]) := rfl
theorem obX_1 {g : GP} {f : Nat → Int32} : cellX g (1 : Int).toNat f = .inr (3, [.int (f 0), .int (f 1), .ref (g.2.2.2 15), .ref (g.2.2.2 16), .ref (g.2.2.2 17), .ref (g.2.2.2 18), .ref (g.2.2.2 10), .ref (g.2.2.2 11)]) := rfl
theorem obX_2 {g : GP} {f : Nat → Int32} : cellX g (2 : Int).toNat f = .inr (2, [.int (f 0), .ref (g.2.2.2 12)]) := rfl
theorem obX_3 {g : GP} {f : Nat → Int32} : cellX g (3 : Int).toNat f = .inr (0, [.int (f 0), .int (f 1), .ref (g.2.2.2 19), .ref (g.2.2.2 20), .ref (g.2.2.2 21), .ref (g.2.2.2 22)]) := rfl
theorem obX_4 {g : GP} {f : Nat → Int32} : cellX g (4 : Int).toNat f = .inr (1, [.ref (g.2.2.2 13)]) := rfl
theorem obX_5 {g : GP} {f : Nat → Int32} : cellX g (5 : Int).toNat f = .inr (4, [.ref (g.2.2.2 (8 + 0))]) := rfl
theorem obX_6 {g : GP} {f : Nat → Int32} : cellX g (6 : Int).toNat f = .inr (6, [.ref (g.2.2.2 14), .ref (g.2.2.2 23), .ref (g.2.2.2 24), .ref (g.2.2.2 25), .ref (g.2.2.2 26)]) := rfl
theorem obX_7 {g : GP} {f : Nat → Int32} : cellX g (7 : Int).toNat f = .inr (7, [.int (f 0), .ref (g.2.2.2 27), .ref (g.2.2.2 (8 + 1))]) := rfl
theorem obX_N {g : GP} {f : Nat → Int32} {z : Int} (h : z = 0 ∨ z = 1) : cellX g (8 + z).toNat f = .inr (5, [.int (f 0), .int (f 1), .int (f 2), .ref (g.2.2.2 (28 + z)), .ref (g.2.2.2 (30 + z)), .ref (g.2.2.2 (32 + z)), .ref (g.2.2.2 (34 + z)), .ref (g.2.2.2 (36 + z)), .ref (g.2.2.2 (38 + z))]) := by
  rcases h with rfl | rfl <;> rfl
theorem obR_0 {g : GP} {f : Nat → Int32} : cellR g (0 : Int).toNat f = .inr (9, [.int (f 0), .int (f 1), .ref (g.2.2.2 1), .ref (g.2.2.2 2), .ref (g.2.2.2 3), .int (f 5), .ref (g.2.2.2 4), .ref (g.2.2.2 5), .ref (g.2.2.2 6), .int (f 9), .int (f 10), .ref (g.2.2.2 7), .ref (g.2.2.2 8), .ref (g.2.2.2 9), .ref (g.2.2.2 10), .ref (g.2.2.2 11), .ref (g.2.2.2 12), .ref (g.2.2.2 13), .ref (g.2.2.2 14), .ref (g.2.2.2 15), .ref (g.2.2.2 16), .ref (g.2.2.2 17), .ref (g.2.2.2 18), .ref (g.2.2.2 19), .int (f 24), .ref (g.2.2.2 20), .ref (g.2.2.2 21), .ref (g.2.2.2 22), .ref (g.2.2.2 23), .ref (g.2.2.2 24), .ref (g.2.2.2 25)]) := rfl
theorem grX_10 {g : GP} (f : Nat → Int32) : cellX g (10 : Int).toNat f = .inl (g.2.2.1, (10 : Int).toNat, .inr (.inr (.inr (.inr (fun i => if i < (10 : Int).toNat then some (g.2.2.2 (40 + (i : Int))) else none))))) := rfl
theorem grX_11 {g : GP} (f : Nat → Int32) : cellX g (11 : Int).toNat f = .inl (g.2.2.1, (10 : Int).toNat, .inr (.inr (.inr (.inr (fun i => if i < (10 : Int).toNat then some (g.2.2.2 (50 + (i : Int))) else none))))) := rfl
theorem grX_12 {g : GP} (f : Nat → Int32) : cellX g (12 : Int).toNat f = .inl (g.2.2.1, (8 : Int).toNat, .inr (.inr (.inr (.inr (fun i => if i < (8 : Int).toNat then some (g.2.2.2 (80 + (i : Int))) else none))))) := rfl
theorem grX_13 {g : GP} (f : Nat → Int32) : cellX g (13 : Int).toNat f = .inl (g.2.2.1, (10 : Int).toNat, .inr (.inr (.inr (.inr (fun i => if i < (10 : Int).toNat then some (g.2.2.2 (60 + (i : Int))) else none))))) := rfl
theorem grX_14 {g : GP} (f : Nat → Int32) : cellX g (14 : Int).toNat f = .inl (g.2.2.1, (10 : Int).toNat, .inr (.inr (.inr (.inr (fun i => if i < (10 : Int).toNat then some (g.2.2.2 (70 + (i : Int))) else none))))) := rfl
section MW
variable {p : Program} {l : Launch} {e : Env} {R : Room} {s : State} {m : MethodId} {args : Array Value} {below : List Frame} {meth : Method} {c : Code} {H : Heap} {locs : List Loc} {cells slots : Nat} {Q : State → Prop}
variable {cc : ByteArray} {pc : Nat} {ls : Array Slot} {rest : List Value} {g : GP} {M : Mem}
theorem x_iald (hx : p.tables.exec = Jvm.exec) (hb : c.code = cc) (I : IX g s M H locs) (r : Int) {n i : Int} (hn : lenX r = n) (hin : 0 ≤ i ∧ i < n) (hdg : decode cc pc = .ok (.iaload, 1)) (kk : W p l e R s m args below meth c H locs cells slots Q (F0 m (pc + 1) ls (.int (i32 (M r i)) :: rest))) : W p l e R s m args below meth c H locs cells slots Q (F0 m pc ls (.int (i32 i) :: .ref (g.2.2.2 r) :: rest)) := by
  subst hn
  have hl := lenX_in (k := r) (by omega)
  exact g_iald hx hb I r 0 (by omega) (by omega) (cellX_row hl.1) (by have := lenX_le r; omega) rfl hin hdg kk
theorem x_iast (hx : p.tables.exec = Jvm.exec) (hb : c.code = cc) (I : IX g s M H locs) (r : Int) {n i x : Int} (hn : lenX r = n) (hin : 0 ≤ i ∧ i < n) (hxr : inR x) (hdg : decode cc pc = .ok (.iastore, 1)) (kk : ∀ (H1 : Heap) (locs1 : List Loc) (M1 : Mem), M1 = mset M r i x → IX g s M1 H1 locs1 → W p l e R s m args below meth c H1 locs1 cells slots Q (F0 m (pc + 1) ls rest)) : W p l e R s m args below meth c H locs cells slots Q (F0 m pc ls (.int (i32 x) :: .int (i32 i) :: .ref (g.2.2.2 r) :: rest)) := by
  subst hn
  have hl := lenX_in (k := r) (by omega)
  exact g_iast hx hb I r 0 (by omega) (by omega) (cellX_row hl.1) (by have := lenX_le r; omega) rfl hin hxr hdg (fun H1 locs1 I1 => kk H1 locs1 _ rfl I1)
theorem x_alen (hx : p.tables.exec = Jvm.exec) (hb : c.code = cc) (I : IX g s M H locs) (r : Int) (hr : 0 < lenX r) (hdg : decode cc pc = .ok (.arraylength, 1)) (kk : W p l e R s m args below meth c H locs cells slots Q (F0 m (pc + 1) ls (.int (i32 (lenX r)) :: rest))) : W p l e R s m args below meth c H locs cells slots Q (F0 m pc ls (.ref (g.2.2.2 r) :: rest)) := by
  have hl := lenX_in hr
  exact g_alen hx hb I r 0 (by omega) (by omega) (cellX_row hl.1) (by omega) rfl hdg kk
theorem x_aald_10 (hx : p.tables.exec = Jvm.exec) (hb : c.code = cc) (I : IX g s M H locs) {i : Int} (hin : 0 ≤ i ∧ i < 10) (hdg : decode cc pc = .ok (.aaload, 1)) (kk : W p l e R s m args below meth c H locs cells slots Q (F0 m (pc + 1) ls (.ref (g.2.2.2 (40 + i)) :: rest))) : W p l e R s m args below meth c H locs cells slots Q (F0 m pc ls (.int (i32 i) :: .ref (g.2.2.2 10) :: rest)) :=
  g_aald (n := 10) (b0 := 40) hx hb I 10 1 (by decide) (by decide) grX_10 (by decide) rfl hin hdg kk
theorem x_aald_11 (hx : p.tables.exec = Jvm.exec) (hb : c.code = cc) (I : IX g s M H locs) {i : Int} (hin : 0 ≤ i ∧ i < 10) (hdg : decode cc pc = .ok (.aaload, 1)) (kk : W p l e R s m args below meth c H locs cells slots Q (F0 m (pc + 1) ls (.ref (g.2.2.2 (50 + i)) :: rest))) : W p l e R s m args below meth c H locs cells slots Q (F0 m pc ls (.int (i32 i) :: .ref (g.2.2.2 11) :: rest)) :=
  g_aald (n := 10) (b0 := 50) hx hb I 11 1 (by decide) (by decide) grX_11 (by decide) rfl hin hdg kk
theorem x_aald_12 (hx : p.tables.exec = Jvm.exec) (hb : c.code = cc) (I : IX g s M H locs) {i : Int} (hin : 0 ≤ i ∧ i < 8) (hdg : decode cc pc = .ok (.aaload, 1)) (kk : W p l e R s m args below meth c H locs cells slots Q (F0 m (pc + 1) ls (.ref (g.2.2.2 (80 + i)) :: rest))) : W p l e R s m args below meth c H locs cells slots Q (F0 m pc ls (.int (i32 i) :: .ref (g.2.2.2 12) :: rest)) :=
  g_aald (n := 8) (b0 := 80) hx hb I 12 1 (by decide) (by decide) grX_12 (by decide) rfl hin hdg kk
theorem x_aald_13 (hx : p.tables.exec = Jvm.exec) (hb : c.code = cc) (I : IX g s M H locs) {i : Int} (hin : 0 ≤ i ∧ i < 10) (hdg : decode cc pc = .ok (.aaload, 1)) (kk : W p l e R s m args below meth c H locs cells slots Q (F0 m (pc + 1) ls (.ref (g.2.2.2 (60 + i)) :: rest))) : W p l e R s m args below meth c H locs cells slots Q (F0 m pc ls (.int (i32 i) :: .ref (g.2.2.2 13) :: rest)) :=
  g_aald (n := 10) (b0 := 60) hx hb I 13 1 (by decide) (by decide) grX_13 (by decide) rfl hin hdg kk
theorem x_aald_14 (hx : p.tables.exec = Jvm.exec) (hb : c.code = cc) (I : IX g s M H locs) {i : Int} (hin : 0 ≤ i ∧ i < 10) (hdg : decode cc pc = .ok (.aaload, 1)) (kk : W p l e R s m args below meth c H locs cells slots Q (F0 m (pc + 1) ls (.ref (g.2.2.2 (70 + i)) :: rest))) : W p l e R s m args below meth c H locs cells slots Q (F0 m pc ls (.int (i32 i) :: .ref (g.2.2.2 14) :: rest)) :=
  g_aald (n := 10) (b0 := 70) hx hb I 14 1 (by decide) (by decide) grX_14 (by decide) rfl hin hdg kk
theorem r_iald (hx : p.tables.exec = Jvm.exec) (hb : c.code = cc) (I : IR g s M H locs) (r : Int) {n i : Int} (hn : lenR r = n) (hz : r ≠ 17 ∧ r ≠ 18) (hin : 0 ≤ i ∧ i < n) (hdg : decode cc pc = .ok (.iaload, 1)) (kk : W p l e R s m args below meth c H locs cells slots Q (F0 m (pc + 1) ls (.int (i32 (M r i)) :: rest))) : W p l e R s m args below meth c H locs cells slots Q (F0 m pc ls (.int (i32 i) :: .ref (g.2.2.2 r) :: rest)) := by
  subst hn
  have hl := lenR_in (k := r) (by omega)
  exact g_iald hx hb I r 0 (by omega) (by omega) (cellR_row hl.1 hz.1 hz.2) (by have := lenR_le r; omega) rfl hin hdg kk
theorem r_iast (hx : p.tables.exec = Jvm.exec) (hb : c.code = cc) (I : IR g s M H locs) (r : Int) {n i x : Int} (hn : lenR r = n) (hz : r ≠ 17 ∧ r ≠ 18) (hin : 0 ≤ i ∧ i < n) (hxr : inR x) (hdg : decode cc pc = .ok (.iastore, 1)) (kk : ∀ (H1 : Heap) (locs1 : List Loc) (M1 : Mem), M1 = mset M r i x → IR g s M1 H1 locs1 → W p l e R s m args below meth c H1 locs1 cells slots Q (F0 m (pc + 1) ls rest)) : W p l e R s m args below meth c H locs cells slots Q (F0 m pc ls (.int (i32 x) :: .int (i32 i) :: .ref (g.2.2.2 r) :: rest)) := by
  subst hn
  have hl := lenR_in (k := r) (by omega)
  exact g_iast hx hb I r 0 (by omega) (by omega) (cellR_row hl.1 hz.1 hz.2) (by have := lenR_le r; omega) rfl hin hxr hdg (fun H1 locs1 I1 => kk H1 locs1 _ rfl I1)
theorem r_zald (hx : p.tables.exec = Jvm.exec) (hb : c.code = cc) (I : IR g s M H locs) (r : Int) {n i : Int} (hn : lenR r = n) (hz : r = 17 ∨ r = 18) (hin : 0 ≤ i ∧ i < n) (hdg : decode cc pc = .ok (.baload, 1)) (kk : W p l e R s m args below meth c H locs cells slots Q (F0 m (pc + 1) ls (.int (i32 (M r i)) :: rest))) : W p l e R s m args below meth c H locs cells slots Q (F0 m pc ls (.int (i32 i) :: .ref (g.2.2.2 r) :: rest)) := by
  subst hn
  exact g_zald hx hb I r 1 (by omega) (by omega) (cellR_rowZ hz) (by have := lenR_le r; omega) rfl hin hdg kk
theorem r_zast (hx : p.tables.exec = Jvm.exec) (hb : c.code = cc) (I : IR g s M H locs) (r : Int) {n i x : Int} (hn : lenR r = n) (hz : r = 17 ∨ r = 18) (hin : 0 ≤ i ∧ i < n) (hxr : x = 0 ∨ x = 1) (hdg : decode cc pc = .ok (.bastore, 1)) (kk : ∀ (H1 : Heap) (locs1 : List Loc) (M1 : Mem), M1 = mset M r i x → IR g s M1 H1 locs1 → W p l e R s m args below meth c H1 locs1 cells slots Q (F0 m (pc + 1) ls rest)) : W p l e R s m args below meth c H locs cells slots Q (F0 m pc ls (.int (i32 x) :: .int (i32 i) :: .ref (g.2.2.2 r) :: rest)) := by
  subst hn
  exact g_zast hx hb I r 1 (by omega) (by omega) (cellR_rowZ hz) (by have := lenR_le r; omega) rfl hin hxr hdg (fun H1 locs1 I1 => kk H1 locs1 _ rfl I1)
theorem xg_0_0 (hx : p.tables.exec = Jvm.exec) (hb : c.code = cc) {own : String} {index : Nat} {Ts : List Cond} (hts : ∀ w ∈ Ts, w.before args s = true) (hin : ∀ w ∈ wsX80, w ∈ Ts) (hown : s.vm.findClass own = some m.cls) (I : IX g s M H locs) (hlink : Cond.fieldLink own index (TX8 0).1 (TX8 0).2.1 (TX8 0).2.2.1 ∈ Ts) (hdg : decode cc pc = .ok (.getfield index, 3)) (kk : W p l e R s m args below meth c H locs cells slots Q (F0 m (pc + 3) ls (.ref (g.2.2.2 1) :: rest))) : W p l e R s m args below meth c H locs cells slots Q (F0 m pc ls (.ref (g.2.2.2 0) :: rest)) := by
  refine g_get (ci := 8) (C := RX8) (T := TX8) (n := 12) (v := .ref (g.2.2.2 1)) hx hb hts hin hown I 0 (by omega) (by omega) obX_0 rfl 0 (by decide) hlink ?_ hdg kk
  first | rfl | (rcases hz with rfl | rfl <;> rfl)
theorem xg_0_1 (hx : p.tables.exec = Jvm.exec) (hb : c.code = cc) {own : String} {index : Nat} {Ts : List Cond} (hts : ∀ w ∈ Ts, w.before args s = true) (hin : ∀ w ∈ wsX80, w ∈ Ts) (hown : s.vm.findClass own = some m.cls) (I : IX g s M H locs) (hlink : Cond.fieldLink own index (TX8 1).1 (TX8 1).2.1 (TX8 1).2.2.1 ∈ Ts) (hdg : decode cc pc = .ok (.getfield index, 3)) (kk : W p l e R s m args below meth c H locs cells slots Q (F0 m (pc + 3) ls (.ref (g.2.2.2 2) :: rest))) : W p l e R s m args below meth c H locs cells slots Q (F0 m pc ls (.ref (g.2.2.2 0) :: rest)) := by
  refine g_get (ci := 8) (C := RX8) (T := TX8) (n := 12) (v := .ref (g.2.2.2 2)) hx hb hts hin hown I 0 (by omega) (by omega) obX_0 rfl 1 (by decide) hlink ?_ hdg kk
  first | rfl | (rcases hz with rfl | rfl <;> rfl)
theorem xg_0_2 (hx : p.tables.exec = Jvm.exec) (hb : c.code = cc) {own : String} {index : Nat} {Ts : List Cond} (hts : ∀ w ∈ Ts, w.before args s = true) (hin : ∀ w ∈ wsX80, w ∈ Ts) (hown : s.vm.findClass own = some m.cls) (I : IX g s M H locs) (hlink : Cond.fieldLink own index (TX8 2).1 (TX8 2).2.1 (TX8 2).2.2.1 ∈ Ts) (hdg : decode cc pc = .ok (.getfield index, 3)) (kk : W p l e R s m args below meth c H locs cells slots Q (F0 m (pc + 3) ls (.ref (g.2.2.2 3) :: rest))) : W p l e R s m args below meth c H locs cells slots Q (F0 m pc ls (.ref (g.2.2.2 0) :: rest)) := by
  refine g_get (ci := 8) (C := RX8) (T := TX8) (n := 12) (v := .ref (g.2.2.2 3)) hx hb hts hin hown I 0 (by omega) (by omega) obX_0 rfl 2 (by decide) hlink ?_ hdg kk
  first | rfl | (rcases hz with rfl | rfl <;> rfl)
theorem xg_0_3 (hx : p.tables.exec = Jvm.exec) (hb : c.code = cc) {own : String} {index : Nat} {Ts : List Cond} (hts : ∀ w ∈ Ts, w.before args s = true) (hin : ∀ w ∈ wsX80, w ∈ Ts) (hown : s.vm.findClass own = some m.cls) (I : IX g s M H locs) (hlink : Cond.fieldLink own index (TX8 3).1 (TX8 3).2.1 (TX8 3).2.2.1 ∈ Ts) (hdg : decode cc pc = .ok (.getfield index, 3)) (kk : W p l e R s m args below meth c H locs cells slots Q (F0 m (pc + 3) ls (.ref (g.2.2.2 4) :: rest))) : W p l e R s m args below meth c H locs cells slots Q (F0 m pc ls (.ref (g.2.2.2 0) :: rest)) := by
  refine g_get (ci := 8) (C := RX8) (T := TX8) (n := 12) (v := .ref (g.2.2.2 4)) hx hb hts hin hown I 0 (by omega) (by omega) obX_0 rfl 3 (by decide) hlink ?_ hdg kk
  first | rfl | (rcases hz with rfl | rfl <;> rfl)
theorem xg_0_4 (hx : p.tables.exec = Jvm.exec) (hb : c.code = cc) {own : String} {index : Nat} {Ts : List Cond} (hts : ∀ w ∈ Ts, w.before args s = true) (hin : ∀ w ∈ wsX80, w ∈ Ts) (hown : s.vm.findClass own = some m.cls) (I : IX g s M H locs) (hlink : Cond.fieldLink own index (TX8 4).1 (TX8 4).2.1 (TX8 4).2.2.1 ∈ Ts) (hdg : decode cc pc = .ok (.getfield index, 3)) (kk : W p l e R s m args below meth c H locs cells slots Q (F0 m (pc + 3) ls (.ref (g.2.2.2 5) :: rest))) : W p l e R s m args below meth c H locs cells slots Q (F0 m pc ls (.ref (g.2.2.2 0) :: rest)) := by
  refine g_get (ci := 8) (C := RX8) (T := TX8) (n := 12) (v := .ref (g.2.2.2 5)) hx hb hts hin hown I 0 (by omega) (by omega) obX_0 rfl 4 (by decide) hlink ?_ hdg kk
  first | rfl | (rcases hz with rfl | rfl <;> rfl)
theorem xg_0_5 (hx : p.tables.exec = Jvm.exec) (hb : c.code = cc) {own : String} {index : Nat} {Ts : List Cond} (hts : ∀ w ∈ Ts, w.before args s = true) (hin : ∀ w ∈ wsX80, w ∈ Ts) (hown : s.vm.findClass own = some m.cls) (I : IX g s M H locs) (hlink : Cond.fieldLink own index (TX8 5).1 (TX8 5).2.1 (TX8 5).2.2.1 ∈ Ts) (hdg : decode cc pc = .ok (.getfield index, 3)) (kk : W p l e R s m args below meth c H locs cells slots Q (F0 m (pc + 3) ls (.ref (g.2.2.2 6) :: rest))) : W p l e R s m args below meth c H locs cells slots Q (F0 m pc ls (.ref (g.2.2.2 0) :: rest)) := by
  refine g_get (ci := 8) (C := RX8) (T := TX8) (n := 12) (v := .ref (g.2.2.2 6)) hx hb hts hin hown I 0 (by omega) (by omega) obX_0 rfl 5 (by decide) hlink ?_ hdg kk
  first | rfl | (rcases hz with rfl | rfl <;> rfl)
theorem xg_0_6 (hx : p.tables.exec = Jvm.exec) (hb : c.code = cc) {own : String} {index : Nat} {Ts : List Cond} (hts : ∀ w ∈ Ts, w.before args s = true) (hin : ∀ w ∈ wsX80, w ∈ Ts) (hown : s.vm.findClass own = some m.cls) (I : IX g s M H locs) (hlink : Cond.fieldLink own index (TX8 6).1 (TX8 6).2.1 (TX8 6).2.2.1 ∈ Ts) (hdg : decode cc pc = .ok (.getfield index, 3)) (kk : W p l e R s m args below meth c H locs cells slots Q (F0 m (pc + 3) ls (.ref (g.2.2.2 7) :: rest))) : W p l e R s m args below meth c H locs cells slots Q (F0 m pc ls (.ref (g.2.2.2 0) :: rest)) := by
  refine g_get (ci := 8) (C := RX8) (T := TX8) (n := 12) (v := .ref (g.2.2.2 7)) hx hb hts hin hown I 0 (by omega) (by omega) obX_0 rfl 6 (by decide) hlink ?_ hdg kk
  first | rfl | (rcases hz with rfl | rfl <;> rfl)
theorem xg_0_7 (hx : p.tables.exec = Jvm.exec) (hb : c.code = cc) {own : String} {index : Nat} {Ts : List Cond} (hts : ∀ w ∈ Ts, w.before args s = true) (hin : ∀ w ∈ wsX80, w ∈ Ts) (hown : s.vm.findClass own = some m.cls) (I : IX g s M H locs) (hlink : Cond.fieldLink own index (TX8 7).1 (TX8 7).2.1 (TX8 7).2.2.1 ∈ Ts) (hdg : decode cc pc = .ok (.getfield index, 3)) (kk : W p l e R s m args below meth c H locs cells slots Q (F0 m (pc + 3) ls (.int (i32 (M 0 7)) :: rest))) : W p l e R s m args below meth c H locs cells slots Q (F0 m pc ls (.ref (g.2.2.2 0) :: rest)) := by
  refine g_get (ci := 8) (C := RX8) (T := TX8) (n := 12) (v := .int (i32 (M 0 7))) hx hb hts hin hown I 0 (by omega) (by omega) obX_0 rfl 7 (by decide) hlink ?_ hdg kk
  first | rfl | (rcases hz with rfl | rfl <;> rfl)
theorem xp_0_7 (hx : p.tables.exec = Jvm.exec) (hb : c.code = cc) {own : String} {index : Nat} {Ts : List Cond} (hts : ∀ w ∈ Ts, w.before args s = true) (hin : ∀ w ∈ wsX80, w ∈ Ts) (hown : s.vm.findClass own = some m.cls) (I : IX g s M H locs) (hlink : Cond.fieldLink own index (TX8 7).1 (TX8 7).2.1 (TX8 7).2.2.1 ∈ Ts) {x : Int} (hxr : inR x) (hdg : decode cc pc = .ok (.putfield index, 3)) (kk : ∀ (H1 : Heap) (locs1 : List Loc) (M1 : Mem), M1 = mset M 0 7 x → IX g s M1 H1 locs1 → W p l e R s m args below meth c H1 locs1 cells slots Q (F0 m (pc + 3) ls rest)) : W p l e R s m args below meth c H locs cells slots Q (F0 m pc ls (.int (i32 x) :: .ref (g.2.2.2 0) :: rest)) :=
  g_put (ci := 8) (C := RX8) (T := TX8) (n := 12) hx hb hts hin tyX8 tyX8_ok nmX8 hown I 0 (by omega) (by omega) obX_0 rfl 7 (by decide) hlink rfl hxr rfl (Nat.le_of_ble_eq_true rfl) (by rw [obX_0]; rfl) hdg (fun H1 locs1 I1 => kk H1 locs1 _ rfl I1)
theorem xg_0_8 (hx : p.tables.exec = Jvm.exec) (hb : c.code = cc) {own : String} {index : Nat} {Ts : List Cond} (hts : ∀ w ∈ Ts, w.before args s = true) (hin : ∀ w ∈ wsX80, w ∈ Ts) (hown : s.vm.findClass own = some m.cls) (I : IX g s M H locs) (hlink : Cond.fieldLink own index (TX8 8).1 (TX8 8).2.1 (TX8 8).2.2.1 ∈ Ts) (hdg : decode cc pc = .ok (.getfield index, 3)) (kk : W p l e R s m args below meth c H locs cells slots Q (F0 m (pc + 3) ls (.int (i32 (M 0 8)) :: rest))) : W p l e R s m args below meth c H locs cells slots Q (F0 m pc ls (.ref (g.2.2.2 0) :: rest)) := by
  refine g_get (ci := 8) (C := RX8) (T := TX8) (n := 12) (v := .int (i32 (M 0 8))) hx hb hts hin hown I 0 (by omega) (by omega) obX_0 rfl 8 (by decide) hlink ?_ hdg kk
  first | rfl | (rcases hz with rfl | rfl <;> rfl)
theorem xp_0_8 (hx : p.tables.exec = Jvm.exec) (hb : c.code = cc) {own : String} {index : Nat} {Ts : List Cond} (hts : ∀ w ∈ Ts, w.before args s = true) (hin : ∀ w ∈ wsX80, w ∈ Ts) (hown : s.vm.findClass own = some m.cls) (I : IX g s M H locs) (hlink : Cond.fieldLink own index (TX8 8).1 (TX8 8).2.1 (TX8 8).2.2.1 ∈ Ts) {x : Int} (hxr : inR x) (hdg : decode cc pc = .ok (.putfield index, 3)) (kk : ∀ (H1 : Heap) (locs1 : List Loc) (M1 : Mem), M1 = mset M 0 8 x → IX g s M1 H1 locs1 → W p l e R s m args below meth c H1 locs1 cells slots Q (F0 m (pc + 3) ls rest)) : W p l e R s m args below meth c H locs cells slots Q (F0 m pc ls (.int (i32 x) :: .ref (g.2.2.2 0) :: rest)) :=
  g_put (ci := 8) (C := RX8) (T := TX8) (n := 12) hx hb hts hin tyX8 tyX8_ok nmX8 hown I 0 (by omega) (by omega) obX_0 rfl 8 (by decide) hlink rfl hxr rfl (Nat.le_of_ble_eq_true rfl) (by rw [obX_0]; rfl) hdg (fun H1 locs1 I1 => kk H1 locs1 _ rfl I1)
theorem xg_0_9 (hx : p.tables.exec = Jvm.exec) (hb : c.code = cc) {own : String} {index : Nat} {Ts : List Cond} (hts : ∀ w ∈ Ts, w.before args s = true) (hin : ∀ w ∈ wsX80, w ∈ Ts) (hown : s.vm.findClass own = some m.cls) (I : IX g s M H locs) (hlink : Cond.fieldLink own index (TX8 9).1 (TX8 9).2.1 (TX8 9).2.2.1 ∈ Ts) (hdg : decode cc pc = .ok (.getfield index, 3)) (kk : W p l e R s m args below meth c H locs cells slots Q (F0 m (pc + 3) ls (.int (i32 (M 0 9)) :: rest))) : W p l e R s m args below meth c H locs cells slots Q (F0 m pc ls (.ref (g.2.2.2 0) :: rest)) := by
  refine g_get (ci := 8) (C := RX8) (T := TX8) (n := 12) (v := .int (i32 (M 0 9))) hx hb hts hin hown I 0 (by omega) (by omega) obX_0 rfl 9 (by decide) hlink ?_ hdg kk
  first | rfl | (rcases hz with rfl | rfl <;> rfl)
theorem xp_0_9 (hx : p.tables.exec = Jvm.exec) (hb : c.code = cc) {own : String} {index : Nat} {Ts : List Cond} (hts : ∀ w ∈ Ts, w.before args s = true) (hin : ∀ w ∈ wsX80, w ∈ Ts) (hown : s.vm.findClass own = some m.cls) (I : IX g s M H locs) (hlink : Cond.fieldLink own index (TX8 9).1 (TX8 9).2.1 (TX8 9).2.2.1 ∈ Ts) {x : Int} (hxr : inR x) (hdg : decode cc pc = .ok (.putfield index, 3)) (kk : ∀ (H1 : Heap) (locs1 : List Loc) (M1 : Mem), M1 = mset M 0 9 x → IX g s M1 H1 locs1 → W p l e R s m args below meth c H1 locs1 cells slots Q (F0 m (pc + 3) ls rest)) : W p l e R s m args below meth c H locs cells slots Q (F0 m pc ls (.int (i32 x) :: .ref (g.2.2.2 0) :: rest)) :=
  g_put (ci := 8) (C := RX8) (T := TX8) (n := 12) hx hb hts hin tyX8 tyX8_ok nmX8 hown I 0 (by omega) (by omega) obX_0 rfl 9 (by decide) hlink rfl hxr rfl (Nat.le_of_ble_eq_true rfl) (by rw [obX_0]; rfl) hdg (fun H1 locs1 I1 => kk H1 locs1 _ rfl I1)
theorem xg_0_10 (hx : p.tables.exec = Jvm.exec) (hb : c.code = cc) {own : String} {index : Nat} {Ts : List Cond} (hts : ∀ w ∈ Ts, w.before args s = true) (hin : ∀ w ∈ wsX80, w ∈ Ts) (hown : s.vm.findClass own = some m.cls) (I : IX g s M H locs) (hlink : Cond.fieldLink own index (TX8 10).1 (TX8 10).2.1 (TX8 10).2.2.1 ∈ Ts) (hdg : decode cc pc = .ok (.getfield index, 3)) (kk : W p l e R s m args below meth c H locs cells slots Q (F0 m (pc + 3) ls (.int (i32 (M 0 10)) :: rest))) : W p l e R s m args below meth c H locs cells slots Q (F0 m pc ls (.ref (g.2.2.2 0) :: rest)) := by
  refine g_get (ci := 8) (C := RX8) (T := TX8) (n := 12) (v := .int (i32 (M 0 10))) hx hb hts hin hown I 0 (by omega) (by omega) obX_0 rfl 10 (by decide) hlink ?_ hdg kk
  first | rfl | (rcases hz with rfl | rfl <;> rfl)
theorem xp_0_10 (hx : p.tables.exec = Jvm.exec) (hb : c.code = cc) {own : String} {index : Nat} {Ts : List Cond} (hts : ∀ w ∈ Ts, w.before args s = true) (hin : ∀ w ∈ wsX80, w ∈ Ts) (hown : s.vm.findClass own = some m.cls) (I : IX g s M H locs) (hlink : Cond.fieldLink own index (TX8 10).1 (TX8 10).2.1 (TX8 10).2.2.1 ∈ Ts) {x : Int} (hxr : inR x) (hdg : decode cc pc = .ok (.putfield index, 3)) (kk : ∀ (H1 : Heap) (locs1 : List Loc) (M1 : Mem), M1 = mset M 0 10 x → IX g s M1 H1 locs1 → W p l e R s m args below meth c H1 locs1 cells slots Q (F0 m (pc + 3) ls rest)) : W p l e R s m args below meth c H locs cells slots Q (F0 m pc ls (.int (i32 x) :: .ref (g.2.2.2 0) :: rest)) :=
  g_put (ci := 8) (C := RX8) (T := TX8) (n := 12) hx hb hts hin tyX8 tyX8_ok nmX8 hown I 0 (by omega) (by omega) obX_0 rfl 10 (by decide) hlink rfl hxr rfl (Nat.le_of_ble_eq_true rfl) (by rw [obX_0]; rfl) hdg (fun H1 locs1 I1 => kk H1 locs1 _ rfl I1)
theorem xg_0_11 (hx : p.tables.exec = Jvm.exec) (hb : c.code = cc) {own : String} {index : Nat} {Ts : List Cond} (hts : ∀ w ∈ Ts, w.before args s = true) (hin : ∀ w ∈ wsX80, w ∈ Ts) (hown : s.vm.findClass own = some m.cls) (I : IX g s M H locs) (hlink : Cond.fieldLink own index (TX8 11).1 (TX8 11).2.1 (TX8 11).2.2.1 ∈ Ts) (hdg : decode cc pc = .ok (.getfield index, 3)) (kk : W p l e R s m args below meth c H locs cells slots Q (F0 m (pc + 3) ls (.int (i32 (M 0 11)) :: rest))) : W p l e R s m args below meth c H locs cells slots Q (F0 m pc ls (.ref (g.2.2.2 0) :: rest)) := by
  refine g_get (ci := 8) (C := RX8) (T := TX8) (n := 12) (v := .int (i32 (M 0 11))) hx hb hts hin hown I 0 (by omega) (by omega) obX_0 rfl 11 (by decide) hlink ?_ hdg kk
  first | rfl | (rcases hz with rfl | rfl <;> rfl)
theorem xp_0_11 (hx : p.tables.exec = Jvm.exec) (hb : c.code = cc) {own : String} {index : Nat} {Ts : List Cond} (hts : ∀ w ∈ Ts, w.before args s = true) (hin : ∀ w ∈ wsX80, w ∈ Ts) (hown : s.vm.findClass own = some m.cls) (I : IX g s M H locs) (hlink : Cond.fieldLink own index (TX8 11).1 (TX8 11).2.1 (TX8 11).2.2.1 ∈ Ts) {x : Int} (hxr : inR x) (hdg : decode cc pc = .ok (.putfield index, 3)) (kk : ∀ (H1 : Heap) (locs1 : List Loc) (M1 : Mem), M1 = mset M 0 11 x → IX g s M1 H1 locs1 → W p l e R s m args below meth c H1 locs1 cells slots Q (F0 m (pc + 3) ls rest)) : W p l e R s m args below meth c H locs cells slots Q (F0 m pc ls (.int (i32 x) :: .ref (g.2.2.2 0) :: rest)) :=
  g_put (ci := 8) (C := RX8) (T := TX8) (n := 12) hx hb hts hin tyX8 tyX8_ok nmX8 hown I 0 (by omega) (by omega) obX_0 rfl 11 (by decide) hlink rfl hxr rfl (Nat.le_of_ble_eq_true rfl) (by rw [obX_0]; rfl) hdg (fun H1 locs1 I1 => kk H1 locs1 _ rfl I1)
theorem xg_1_0 (hx : p.tables.exec = Jvm.exec) (hb : c.code = cc) {own : String} {index : Nat} {Ts : List Cond} (hts : ∀ w ∈ Ts, w.before args s = true) (hin : ∀ w ∈ wsX30, w ∈ Ts) (hown : s.vm.findClass own = some m.cls) (I : IX g s M H locs) (hlink : Cond.fieldLink own index (TX3 0).1 (TX3 0).2.1 (TX3 0).2.2.1 ∈ Ts) (hdg : decode cc pc = .ok (.getfield index, 3)) (kk : W p l e R s m args below meth c H locs cells slots Q (F0 m (pc + 3) ls (.int (i32 (M 1 0)) :: rest))) : W p l e R s m args below meth c H locs cells slots Q (F0 m pc ls (.ref (g.2.2.2 1) :: rest)) := by
  refine g_get (ci := 3) (C := RX3) (T := TX3) (n := 8) (v := .int (i32 (M 1 0))) hx hb hts hin hown I 1 (by omega) (by omega) obX_1 rfl 0 (by decide) hlink ?_ hdg kk
  first | rfl | (rcases hz with rfl | rfl <;> rfl)
theorem xp_1_0 (hx : p.tables.exec = Jvm.exec) (hb : c.code = cc) {own : String} {index : Nat} {Ts : List Cond} (hts : ∀ w ∈ Ts, w.before args s = true) (hin : ∀ w ∈ wsX30, w ∈ Ts) (hown : s.vm.findClass own = some m.cls) (I : IX g s M H locs) (hlink : Cond.fieldLink own index (TX3 0).1 (TX3 0).2.1 (TX3 0).2.2.1 ∈ Ts) {x : Int} (hxr : inR x) (hdg : decode cc pc = .ok (.putfield index, 3)) (kk : ∀ (H1 : Heap) (locs1 : List Loc) (M1 : Mem), M1 = mset M 1 0 x → IX g s M1 H1 locs1 → W p l e R s m args below meth c H1 locs1 cells slots Q (F0 m (pc + 3) ls rest)) : W p l e R s m args below meth c H locs cells slots Q (F0 m pc ls (.int (i32 x) :: .ref (g.2.2.2 1) :: rest)) :=
  g_put (ci := 3) (C := RX3) (T := TX3) (n := 8) hx hb hts hin tyX3 tyX3_ok nmX3 hown I 1 (by omega) (by omega) obX_1 rfl 0 (by decide) hlink rfl hxr rfl (Nat.le_of_ble_eq_true rfl) (by rw [obX_1]; rfl) hdg (fun H1 locs1 I1 => kk H1 locs1 _ rfl I1)
theorem xg_1_1 (hx : p.tables.exec = Jvm.exec) (hb : c.code = cc) {own : String} {index : Nat} {Ts : List Cond} (hts : ∀ w ∈ Ts, w.before args s = true) (hin : ∀ w ∈ wsX30, w ∈ Ts) (hown : s.vm.findClass own = some m.cls) (I : IX g s M H locs) (hlink : Cond.fieldLink own index (TX3 1).1 (TX3 1).2.1 (TX3 1).2.2.1 ∈ Ts) (hdg : decode cc pc = .ok (.getfield index, 3)) (kk : W p l e R s m args below meth c H locs cells slots Q (F0 m (pc + 3) ls (.int (i32 (M 1 1)) :: rest))) : W p l e R s m args below meth c H locs cells slots Q (F0 m pc ls (.ref (g.2.2.2 1) :: rest)) := by
  refine g_get (ci := 3) (C := RX3) (T := TX3) (n := 8) (v := .int (i32 (M 1 1))) hx hb hts hin hown I 1 (by omega) (by omega) obX_1 rfl 1 (by decide) hlink ?_ hdg kk
  first | rfl | (rcases hz with rfl | rfl <;> rfl)
theorem xp_1_1 (hx : p.tables.exec = Jvm.exec) (hb : c.code = cc) {own : String} {index : Nat} {Ts : List Cond} (hts : ∀ w ∈ Ts, w.before args s = true) (hin : ∀ w ∈ wsX30, w ∈ Ts) (hown : s.vm.findClass own = some m.cls) (I : IX g s M H locs) (hlink : Cond.fieldLink own index (TX3 1).1 (TX3 1).2.1 (TX3 1).2.2.1 ∈ Ts) {x : Int} (hxr : inR x) (hdg : decode cc pc = .ok (.putfield index, 3)) (kk : ∀ (H1 : Heap) (locs1 : List Loc) (M1 : Mem), M1 = mset M 1 1 x → IX g s M1 H1 locs1 → W p l e R s m args below meth c H1 locs1 cells slots Q (F0 m (pc + 3) ls rest)) : W p l e R s m args below meth c H locs cells slots Q (F0 m pc ls (.int (i32 x) :: .ref (g.2.2.2 1) :: rest)) :=
  g_put (ci := 3) (C := RX3) (T := TX3) (n := 8) hx hb hts hin tyX3 tyX3_ok nmX3 hown I 1 (by omega) (by omega) obX_1 rfl 1 (by decide) hlink rfl hxr rfl (Nat.le_of_ble_eq_true rfl) (by rw [obX_1]; rfl) hdg (fun H1 locs1 I1 => kk H1 locs1 _ rfl I1)
theorem xg_1_2 (hx : p.tables.exec = Jvm.exec) (hb : c.code = cc) {own : String} {index : Nat} {Ts : List Cond} (hts : ∀ w ∈ Ts, w.before args s = true) (hin : ∀ w ∈ wsX30, w ∈ Ts) (hown : s.vm.findClass own = some m.cls) (I : IX g s M H locs) (hlink : Cond.fieldLink own index (TX3 2).1 (TX3 2).2.1 (TX3 2).2.2.1 ∈ Ts) (hdg : decode cc pc = .ok (.getfield index, 3)) (kk : W p l e R s m args below meth c H locs cells slots Q (F0 m (pc + 3) ls (.ref (g.2.2.2 15) :: rest))) : W p l e R s m args below meth c H locs cells slots Q (F0 m pc ls (.ref (g.2.2.2 1) :: rest)) := by
  refine g_get (ci := 3) (C := RX3) (T := TX3) (n := 8) (v := .ref (g.2.2.2 15)) hx hb hts hin hown I 1 (by omega) (by omega) obX_1 rfl 2 (by decide) hlink ?_ hdg kk
  first | rfl | (rcases hz with rfl | rfl <;> rfl)
theorem xg_1_3 (hx : p.tables.exec = Jvm.exec) (hb : c.code = cc) {own : String} {index : Nat} {Ts : List Cond} (hts : ∀ w ∈ Ts, w.before args s = true) (hin : ∀ w ∈ wsX30, w ∈ Ts) (hown : s.vm.findClass own = some m.cls) (I : IX g s M H locs) (hlink : Cond.fieldLink own index (TX3 3).1 (TX3 3).2.1 (TX3 3).2.2.1 ∈ Ts) (hdg : decode cc pc = .ok (.getfield index, 3)) (kk : W p l e R s m args below meth c H locs cells slots Q (F0 m (pc + 3) ls (.ref (g.2.2.2 16) :: rest))) : W p l e R s m args below meth c H locs cells slots Q (F0 m pc ls (.ref (g.2.2.2 1) :: rest)) := by
  refine g_get (ci := 3) (C := RX3) (T := TX3) (n := 8) (v := .ref (g.2.2.2 16)) hx hb hts hin hown I 1 (by omega) (by omega) obX_1 rfl 3 (by decide) hlink ?_ hdg kk
  first | rfl | (rcases hz with rfl | rfl <;> rfl)
theorem xg_1_4 (hx : p.tables.exec = Jvm.exec) (hb : c.code = cc) {own : String} {index : Nat} {Ts : List Cond} (hts : ∀ w ∈ Ts, w.before args s = true) (hin : ∀ w ∈ wsX30, w ∈ Ts) (hown : s.vm.findClass own = some m.cls) (I : IX g s M H locs) (hlink : Cond.fieldLink own index (TX3 4).1 (TX3 4).2.1 (TX3 4).2.2.1 ∈ Ts) (hdg : decode cc pc = .ok (.getfield index, 3)) (kk : W p l e R s m args below meth c H locs cells slots Q (F0 m (pc + 3) ls (.ref (g.2.2.2 17) :: rest))) : W p l e R s m args below meth c H locs cells slots Q (F0 m pc ls (.ref (g.2.2.2 1) :: rest)) := by
  refine g_get (ci := 3) (C := RX3) (T := TX3) (n := 8) (v := .ref (g.2.2.2 17)) hx hb hts hin hown I 1 (by omega) (by omega) obX_1 rfl 4 (by decide) hlink ?_ hdg kk
  first | rfl | (rcases hz with rfl | rfl <;> rfl)
theorem xg_1_5 (hx : p.tables.exec = Jvm.exec) (hb : c.code = cc) {own : String} {index : Nat} {Ts : List Cond} (hts : ∀ w ∈ Ts, w.before args s = true) (hin : ∀ w ∈ wsX30, w ∈ Ts) (hown : s.vm.findClass own = some m.cls) (I : IX g s M H locs) (hlink : Cond.fieldLink own index (TX3 5).1 (TX3 5).2.1 (TX3 5).2.2.1 ∈ Ts) (hdg : decode cc pc = .ok (.getfield index, 3)) (kk : W p l e R s m args below meth c H locs cells slots Q (F0 m (pc + 3) ls (.ref (g.2.2.2 18) :: rest))) : W p l e R s m args below meth c H locs cells slots Q (F0 m pc ls (.ref (g.2.2.2 1) :: rest)) := by
  refine g_get (ci := 3) (C := RX3) (T := TX3) (n := 8) (v := .ref (g.2.2.2 18)) hx hb hts hin hown I 1 (by omega) (by omega) obX_1 rfl 5 (by decide) hlink ?_ hdg kk
  first | rfl | (rcases hz with rfl | rfl <;> rfl)
theorem xg_1_6 (hx : p.tables.exec = Jvm.exec) (hb : c.code = cc) {own : String} {index : Nat} {Ts : List Cond} (hts : ∀ w ∈ Ts, w.before args s = true) (hin : ∀ w ∈ wsX30, w ∈ Ts) (hown : s.vm.findClass own = some m.cls) (I : IX g s M H locs) (hlink : Cond.fieldLink own index (TX3 6).1 (TX3 6).2.1 (TX3 6).2.2.1 ∈ Ts) (hdg : decode cc pc = .ok (.getfield index, 3)) (kk : W p l e R s m args below meth c H locs cells slots Q (F0 m (pc + 3) ls (.ref (g.2.2.2 10) :: rest))) : W p l e R s m args below meth c H locs cells slots Q (F0 m pc ls (.ref (g.2.2.2 1) :: rest)) := by
  refine g_get (ci := 3) (C := RX3) (T := TX3) (n := 8) (v := .ref (g.2.2.2 10)) hx hb hts hin hown I 1 (by omega) (by omega) obX_1 rfl 6 (by decide) hlink ?_ hdg kk
  first | rfl | (rcases hz with rfl | rfl <;> rfl)
theorem xg_1_7 (hx : p.tables.exec = Jvm.exec) (hb : c.code = cc) {own : String} {index : Nat} {Ts : List Cond} (hts : ∀ w ∈ Ts, w.before args s = true) (hin : ∀ w ∈ wsX30, w ∈ Ts) (hown : s.vm.findClass own = some m.cls) (I : IX g s M H locs) (hlink : Cond.fieldLink own index (TX3 7).1 (TX3 7).2.1 (TX3 7).2.2.1 ∈ Ts) (hdg : decode cc pc = .ok (.getfield index, 3)) (kk : W p l e R s m args below meth c H locs cells slots Q (F0 m (pc + 3) ls (.ref (g.2.2.2 11) :: rest))) : W p l e R s m args below meth c H locs cells slots Q (F0 m pc ls (.ref (g.2.2.2 1) :: rest)) := by
  refine g_get (ci := 3) (C := RX3) (T := TX3) (n := 8) (v := .ref (g.2.2.2 11)) hx hb hts hin hown I 1 (by omega) (by omega) obX_1 rfl 7 (by decide) hlink ?_ hdg kk
  first | rfl | (rcases hz with rfl | rfl <;> rfl)
theorem xg_2_0 (hx : p.tables.exec = Jvm.exec) (hb : c.code = cc) {own : String} {index : Nat} {Ts : List Cond} (hts : ∀ w ∈ Ts, w.before args s = true) (hin : ∀ w ∈ wsX20, w ∈ Ts) (hown : s.vm.findClass own = some m.cls) (I : IX g s M H locs) (hlink : Cond.fieldLink own index (TX2 0).1 (TX2 0).2.1 (TX2 0).2.2.1 ∈ Ts) (hdg : decode cc pc = .ok (.getfield index, 3)) (kk : W p l e R s m args below meth c H locs cells slots Q (F0 m (pc + 3) ls (.int (i32 (M 2 0)) :: rest))) : W p l e R s m args below meth c H locs cells slots Q (F0 m pc ls (.ref (g.2.2.2 2) :: rest)) := by
  refine g_get (ci := 2) (C := RX2) (T := TX2) (n := 2) (v := .int (i32 (M 2 0))) hx hb hts hin hown I 2 (by omega) (by omega) obX_2 rfl 0 (by decide) hlink ?_ hdg kk
  first | rfl | (rcases hz with rfl | rfl <;> rfl)
theorem xp_2_0 (hx : p.tables.exec = Jvm.exec) (hb : c.code = cc) {own : String} {index : Nat} {Ts : List Cond} (hts : ∀ w ∈ Ts, w.before args s = true) (hin : ∀ w ∈ wsX20, w ∈ Ts) (hown : s.vm.findClass own = some m.cls) (I : IX g s M H locs) (hlink : Cond.fieldLink own index (TX2 0).1 (TX2 0).2.1 (TX2 0).2.2.1 ∈ Ts) {x : Int} (hxr : inR x) (hdg : decode cc pc = .ok (.putfield index, 3)) (kk : ∀ (H1 : Heap) (locs1 : List Loc) (M1 : Mem), M1 = mset M 2 0 x → IX g s M1 H1 locs1 → W p l e R s m args below meth c H1 locs1 cells slots Q (F0 m (pc + 3) ls rest)) : W p l e R s m args below meth c H locs cells slots Q (F0 m pc ls (.int (i32 x) :: .ref (g.2.2.2 2) :: rest)) :=
  g_put (ci := 2) (C := RX2) (T := TX2) (n := 2) hx hb hts hin tyX2 tyX2_ok nmX2 hown I 2 (by omega) (by omega) obX_2 rfl 0 (by decide) hlink rfl hxr rfl (Nat.le_of_ble_eq_true rfl) (by rw [obX_2]; rfl) hdg (fun H1 locs1 I1 => kk H1 locs1 _ rfl I1)
theorem xg_2_1 (hx : p.tables.exec = Jvm.exec) (hb : c.code = cc) {own : String} {index : Nat} {Ts : List Cond} (hts : ∀ w ∈ Ts, w.before args s = true) (hin : ∀ w ∈ wsX20, w ∈ Ts) (hown : s.vm.findClass own = some m.cls) (I : IX g s M H locs) (hlink : Cond.fieldLink own index (TX2 1).1 (TX2 1).2.1 (TX2 1).2.2.1 ∈ Ts) (hdg : decode cc pc = .ok (.getfield index, 3)) (kk : W p l e R s m args below meth c H locs cells slots Q (F0 m (pc + 3) ls (.ref (g.2.2.2 12) :: rest))) : W p l e R s m args below meth c H locs cells slots Q (F0 m pc ls (.ref (g.2.2.2 2) :: rest)) := by
  refine g_get (ci := 2) (C := RX2) (T := TX2) (n := 2) (v := .ref (g.2.2.2 12)) hx hb hts hin hown I 2 (by omega) (by omega) obX_2 rfl 1 (by decide) hlink ?_ hdg kk
  first | rfl | (rcases hz with rfl | rfl <;> rfl)
theorem xg_3_0 (hx : p.tables.exec = Jvm.exec) (hb : c.code = cc) {own : String} {index : Nat} {Ts : List Cond} (hts : ∀ w ∈ Ts, w.before args s = true) (hin : ∀ w ∈ wsX00, w ∈ Ts) (hown : s.vm.findClass own = some m.cls) (I : IX g s M H locs) (hlink : Cond.fieldLink own index (TX0 0).1 (TX0 0).2.1 (TX0 0).2.2.1 ∈ Ts) (hdg : decode cc pc = .ok (.getfield index, 3)) (kk : W p l e R s m args below meth c H locs cells slots Q (F0 m (pc + 3) ls (.int (i32 (M 3 0)) :: rest))) : W p l e R s m args below meth c H locs cells slots Q (F0 m pc ls (.ref (g.2.2.2 3) :: rest)) := by
  refine g_get (ci := 0) (C := RX0) (T := TX0) (n := 6) (v := .int (i32 (M 3 0))) hx hb hts hin hown I 3 (by omega) (by omega) obX_3 rfl 0 (by decide) hlink ?_ hdg kk
  first | rfl | (rcases hz with rfl | rfl <;> rfl)
theorem xp_3_0 (hx : p.tables.exec = Jvm.exec) (hb : c.code = cc) {own : String} {index : Nat} {Ts : List Cond} (hts : ∀ w ∈ Ts, w.before args s = true) (hin : ∀ w ∈ wsX00, w ∈ Ts) (hown : s.vm.findClass own = some m.cls) (I : IX g s M H locs) (hlink : Cond.fieldLink own index (TX0 0).1 (TX0 0).2.1 (TX0 0).2.2.1 ∈ Ts) {x : Int} (hxr : inR x) (hdg : decode cc pc = .ok (.putfield index, 3)) (kk : ∀ (H1 : Heap) (locs1 : List Loc) (M1 : Mem), M1 = mset M 3 0 x → IX g s M1 H1 locs1 → W p l e R s m args below meth c H1 locs1 cells slots Q (F0 m (pc + 3) ls rest)) : W p l e R s m args below meth c H locs cells slots Q (F0 m pc ls (.int (i32 x) :: .ref (g.2.2.2 3) :: rest)) :=
  g_put (ci := 0) (C := RX0) (T := TX0) (n := 6) hx hb hts hin tyX0 tyX0_ok nmX0 hown I 3 (by omega) (by omega) obX_3 rfl 0 (by decide) hlink rfl hxr rfl (Nat.le_of_ble_eq_true rfl) (by rw [obX_3]; rfl) hdg (fun H1 locs1 I1 => kk H1 locs1 _ rfl I1)
theorem xg_3_1 (hx : p.tables.exec = Jvm.exec) (hb : c.code = cc) {own : String} {index : Nat} {Ts : List Cond} (hts : ∀ w ∈ Ts, w.before args s = true) (hin : ∀ w ∈ wsX00, w ∈ Ts) (hown : s.vm.findClass own = some m.cls) (I : IX g s M H locs) (hlink : Cond.fieldLink own index (TX0 1).1 (TX0 1).2.1 (TX0 1).2.2.1 ∈ Ts) (hdg : decode cc pc = .ok (.getfield index, 3)) (kk : W p l e R s m args below meth c H locs cells slots Q (F0 m (pc + 3) ls (.int (i32 (M 3 1)) :: rest))) : W p l e R s m args below meth c H locs cells slots Q (F0 m pc ls (.ref (g.2.2.2 3) :: rest)) := by
  refine g_get (ci := 0) (C := RX0) (T := TX0) (n := 6) (v := .int (i32 (M 3 1))) hx hb hts hin hown I 3 (by omega) (by omega) obX_3 rfl 1 (by decide) hlink ?_ hdg kk
  first | rfl | (rcases hz with rfl | rfl <;> rfl)
theorem xp_3_1 (hx : p.tables.exec = Jvm.exec) (hb : c.code = cc) {own : String} {index : Nat} {Ts : List Cond} (hts : ∀ w ∈ Ts, w.before args s = true) (hin : ∀ w ∈ wsX00, w ∈ Ts) (hown : s.vm.findClass own = some m.cls) (I : IX g s M H locs) (hlink : Cond.fieldLink own index (TX0 1).1 (TX0 1).2.1 (TX0 1).2.2.1 ∈ Ts) {x : Int} (hxr : inR x) (hdg : decode cc pc = .ok (.putfield index, 3)) (kk : ∀ (H1 : Heap) (locs1 : List Loc) (M1 : Mem), M1 = mset M 3 1 x → IX g s M1 H1 locs1 → W p l e R s m args below meth c H1 locs1 cells slots Q (F0 m (pc + 3) ls rest)) : W p l e R s m args below meth c H locs cells slots Q (F0 m pc ls (.int (i32 x) :: .ref (g.2.2.2 3) :: rest)) :=
  g_put (ci := 0) (C := RX0) (T := TX0) (n := 6) hx hb hts hin tyX0 tyX0_ok nmX0 hown I 3 (by omega) (by omega) obX_3 rfl 1 (by decide) hlink rfl hxr rfl (Nat.le_of_ble_eq_true rfl) (by rw [obX_3]; rfl) hdg (fun H1 locs1 I1 => kk H1 locs1 _ rfl I1)
theorem xg_3_2 (hx : p.tables.exec = Jvm.exec) (hb : c.code = cc) {own : String} {index : Nat} {Ts : List Cond} (hts : ∀ w ∈ Ts, w.before args s = true) (hin : ∀ w ∈ wsX00, w ∈ Ts) (hown : s.vm.findClass own = some m.cls) (I : IX g s M H locs) (hlink : Cond.fieldLink own index (TX0 2).1 (TX0 2).2.1 (TX0 2).2.2.1 ∈ Ts) (hdg : decode cc pc = .ok (.getfield index, 3)) (kk : W p l e R s m args below meth c H locs cells slots Q (F0 m (pc + 3) ls (.ref (g.2.2.2 19) :: rest))) : W p l e R s m args below meth c H locs cells slots Q (F0 m pc ls (.ref (g.2.2.2 3) :: rest)) := by
  refine g_get (ci := 0) (C := RX0) (T := TX0) (n := 6) (v := .ref (g.2.2.2 19)) hx hb hts hin hown I 3 (by omega) (by omega) obX_3 rfl 2 (by decide) hlink ?_ hdg kk
  first | rfl | (rcases hz with rfl | rfl <;> rfl)
theorem xg_3_3 (hx : p.tables.exec = Jvm.exec) (hb : c.code = cc) {own : String} {index : Nat} {Ts : List Cond} (hts : ∀ w ∈ Ts, w.before args s = true) (hin : ∀ w ∈ wsX00, w ∈ Ts) (hown : s.vm.findClass own = some m.cls) (I : IX g s M H locs) (hlink : Cond.fieldLink own index (TX0 3).1 (TX0 3).2.1 (TX0 3).2.2.1 ∈ Ts) (hdg : decode cc pc = .ok (.getfield index, 3)) (kk : W p l e R s m args below meth c H locs cells slots Q (F0 m (pc + 3) ls (.ref (g.2.2.2 20) :: rest))) : W p l e R s m args below meth c H locs cells slots Q (F0 m pc ls (.ref (g.2.2.2 3) :: rest)) := by
  refine g_get (ci := 0) (C := RX0) (T := TX0) (n := 6) (v := .ref (g.2.2.2 20)) hx hb hts hin hown I 3 (by omega) (by omega) obX_3 rfl 3 (by decide) hlink ?_ hdg kk
  first | rfl | (rcases hz with rfl | rfl <;> rfl)
theorem xg_3_4 (hx : p.tables.exec = Jvm.exec) (hb : c.code = cc) {own : String} {index : Nat} {Ts : List Cond} (hts : ∀ w ∈ Ts, w.before args s = true) (hin : ∀ w ∈ wsX00, w ∈ Ts) (hown : s.vm.findClass own = some m.cls) (I : IX g s M H locs) (hlink : Cond.fieldLink own index (TX0 4).1 (TX0 4).2.1 (TX0 4).2.2.1 ∈ Ts) (hdg : decode cc pc = .ok (.getfield index, 3)) (kk : W p l e R s m args below meth c H locs cells slots Q (F0 m (pc + 3) ls (.ref (g.2.2.2 21) :: rest))) : W p l e R s m args below meth c H locs cells slots Q (F0 m pc ls (.ref (g.2.2.2 3) :: rest)) := by
  refine g_get (ci := 0) (C := RX0) (T := TX0) (n := 6) (v := .ref (g.2.2.2 21)) hx hb hts hin hown I 3 (by omega) (by omega) obX_3 rfl 4 (by decide) hlink ?_ hdg kk
  first | rfl | (rcases hz with rfl | rfl <;> rfl)
theorem xg_3_5 (hx : p.tables.exec = Jvm.exec) (hb : c.code = cc) {own : String} {index : Nat} {Ts : List Cond} (hts : ∀ w ∈ Ts, w.before args s = true) (hin : ∀ w ∈ wsX00, w ∈ Ts) (hown : s.vm.findClass own = some m.cls) (I : IX g s M H locs) (hlink : Cond.fieldLink own index (TX0 5).1 (TX0 5).2.1 (TX0 5).2.2.1 ∈ Ts) (hdg : decode cc pc = .ok (.getfield index, 3)) (kk : W p l e R s m args below meth c H locs cells slots Q (F0 m (pc + 3) ls (.ref (g.2.2.2 22) :: rest))) : W p l e R s m args below meth c H locs cells slots Q (F0 m pc ls (.ref (g.2.2.2 3) :: rest)) := by
  refine g_get (ci := 0) (C := RX0) (T := TX0) (n := 6) (v := .ref (g.2.2.2 22)) hx hb hts hin hown I 3 (by omega) (by omega) obX_3 rfl 5 (by decide) hlink ?_ hdg kk
  first | rfl | (rcases hz with rfl | rfl <;> rfl)
theorem xg_4_0 (hx : p.tables.exec = Jvm.exec) (hb : c.code = cc) {own : String} {index : Nat} {Ts : List Cond} (hts : ∀ w ∈ Ts, w.before args s = true) (hin : ∀ w ∈ wsX10, w ∈ Ts) (hown : s.vm.findClass own = some m.cls) (I : IX g s M H locs) (hlink : Cond.fieldLink own index (TX1 0).1 (TX1 0).2.1 (TX1 0).2.2.1 ∈ Ts) (hdg : decode cc pc = .ok (.getfield index, 3)) (kk : W p l e R s m args below meth c H locs cells slots Q (F0 m (pc + 3) ls (.ref (g.2.2.2 13) :: rest))) : W p l e R s m args below meth c H locs cells slots Q (F0 m pc ls (.ref (g.2.2.2 4) :: rest)) := by
  refine g_get (ci := 1) (C := RX1) (T := TX1) (n := 1) (v := .ref (g.2.2.2 13)) hx hb hts hin hown I 4 (by omega) (by omega) obX_4 rfl 0 (by decide) hlink ?_ hdg kk
  first | rfl | (rcases hz with rfl | rfl <;> rfl)
theorem xg_5_0 (hx : p.tables.exec = Jvm.exec) (hb : c.code = cc) {own : String} {index : Nat} {Ts : List Cond} (hts : ∀ w ∈ Ts, w.before args s = true) (hin : ∀ w ∈ wsX40, w ∈ Ts) (hown : s.vm.findClass own = some m.cls) (I : IX g s M H locs) (hlink : Cond.fieldLink own index (TX4 0).1 (TX4 0).2.1 (TX4 0).2.2.1 ∈ Ts) (hdg : decode cc pc = .ok (.getfield index, 3)) (kk : W p l e R s m args below meth c H locs cells slots Q (F0 m (pc + 3) ls (.ref (g.2.2.2 (8 + 0)) :: rest))) : W p l e R s m args below meth c H locs cells slots Q (F0 m pc ls (.ref (g.2.2.2 5) :: rest)) := by
  refine g_get (ci := 4) (C := RX4) (T := TX4) (n := 1) (v := .ref (g.2.2.2 (8 + 0))) hx hb hts hin hown I 5 (by omega) (by omega) obX_5 rfl 0 (by decide) hlink ?_ hdg kk
  first | rfl | (rcases hz with rfl | rfl <;> rfl)
theorem xg_6_0 (hx : p.tables.exec = Jvm.exec) (hb : c.code = cc) {own : String} {index : Nat} {Ts : List Cond} (hts : ∀ w ∈ Ts, w.before args s = true) (hin : ∀ w ∈ wsX60, w ∈ Ts) (hown : s.vm.findClass own = some m.cls) (I : IX g s M H locs) (hlink : Cond.fieldLink own index (TX6 0).1 (TX6 0).2.1 (TX6 0).2.2.1 ∈ Ts) (hdg : decode cc pc = .ok (.getfield index, 3)) (kk : W p l e R s m args below meth c H locs cells slots Q (F0 m (pc + 3) ls (.ref (g.2.2.2 14) :: rest))) : W p l e R s m args below meth c H locs cells slots Q (F0 m pc ls (.ref (g.2.2.2 6) :: rest)) := by
  refine g_get (ci := 6) (C := RX6) (T := TX6) (n := 5) (v := .ref (g.2.2.2 14)) hx hb hts hin hown I 6 (by omega) (by omega) obX_6 rfl 0 (by decide) hlink ?_ hdg kk
  first | rfl | (rcases hz with rfl | rfl <;> rfl)
theorem xg_6_1 (hx : p.tables.exec = Jvm.exec) (hb : c.code = cc) {own : String} {index : Nat} {Ts : List Cond} (hts : ∀ w ∈ Ts, w.before args s = true) (hin : ∀ w ∈ wsX60, w ∈ Ts) (hown : s.vm.findClass own = some m.cls) (I : IX g s M H locs) (hlink : Cond.fieldLink own index (TX6 1).1 (TX6 1).2.1 (TX6 1).2.2.1 ∈ Ts) (hdg : decode cc pc = .ok (.getfield index, 3)) (kk : W p l e R s m args below meth c H locs cells slots Q (F0 m (pc + 3) ls (.ref (g.2.2.2 23) :: rest))) : W p l e R s m args below meth c H locs cells slots Q (F0 m pc ls (.ref (g.2.2.2 6) :: rest)) := by
  refine g_get (ci := 6) (C := RX6) (T := TX6) (n := 5) (v := .ref (g.2.2.2 23)) hx hb hts hin hown I 6 (by omega) (by omega) obX_6 rfl 1 (by decide) hlink ?_ hdg kk
  first | rfl | (rcases hz with rfl | rfl <;> rfl)
theorem xg_6_2 (hx : p.tables.exec = Jvm.exec) (hb : c.code = cc) {own : String} {index : Nat} {Ts : List Cond} (hts : ∀ w ∈ Ts, w.before args s = true) (hin : ∀ w ∈ wsX60, w ∈ Ts) (hown : s.vm.findClass own = some m.cls) (I : IX g s M H locs) (hlink : Cond.fieldLink own index (TX6 2).1 (TX6 2).2.1 (TX6 2).2.2.1 ∈ Ts) (hdg : decode cc pc = .ok (.getfield index, 3)) (kk : W p l e R s m args below meth c H locs cells slots Q (F0 m (pc + 3) ls (.ref (g.2.2.2 24) :: rest))) : W p l e R s m args below meth c H locs cells slots Q (F0 m pc ls (.ref (g.2.2.2 6) :: rest)) := by
  refine g_get (ci := 6) (C := RX6) (T := TX6) (n := 5) (v := .ref (g.2.2.2 24)) hx hb hts hin hown I 6 (by omega) (by omega) obX_6 rfl 2 (by decide) hlink ?_ hdg kk
  first | rfl | (rcases hz with rfl | rfl <;> rfl)
theorem xg_6_3 (hx : p.tables.exec = Jvm.exec) (hb : c.code = cc) {own : String} {index : Nat} {Ts : List Cond} (hts : ∀ w ∈ Ts, w.before args s = true) (hin : ∀ w ∈ wsX60, w ∈ Ts) (hown : s.vm.findClass own = some m.cls) (I : IX g s M H locs) (hlink : Cond.fieldLink own index (TX6 3).1 (TX6 3).2.1 (TX6 3).2.2.1 ∈ Ts) (hdg : decode cc pc = .ok (.getfield index, 3)) (kk : W p l e R s m args below meth c H locs cells slots Q (F0 m (pc + 3) ls (.ref (g.2.2.2 25) :: rest))) : W p l e R s m args below meth c H locs cells slots Q (F0 m pc ls (.ref (g.2.2.2 6) :: rest)) := by
  refine g_get (ci := 6) (C := RX6) (T := TX6) (n := 5) (v := .ref (g.2.2.2 25)) hx hb hts hin hown I 6 (by omega) (by omega) obX_6 rfl 3 (by decide) hlink ?_ hdg kk
  first | rfl | (rcases hz with rfl | rfl <;> rfl)
theorem xg_6_4 (hx : p.tables.exec = Jvm.exec) (hb : c.code = cc) {own : String} {index : Nat} {Ts : List Cond} (hts : ∀ w ∈ Ts, w.before args s = true) (hin : ∀ w ∈ wsX60, w ∈ Ts) (hown : s.vm.findClass own = some m.cls) (I : IX g s M H locs) (hlink : Cond.fieldLink own index (TX6 4).1 (TX6 4).2.1 (TX6 4).2.2.1 ∈ Ts) (hdg : decode cc pc = .ok (.getfield index, 3)) (kk : W p l e R s m args below meth c H locs cells slots Q (F0 m (pc + 3) ls (.ref (g.2.2.2 26) :: rest))) : W p l e R s m args below meth c H locs cells slots Q (F0 m pc ls (.ref (g.2.2.2 6) :: rest)) := by
  refine g_get (ci := 6) (C := RX6) (T := TX6) (n := 5) (v := .ref (g.2.2.2 26)) hx hb hts hin hown I 6 (by omega) (by omega) obX_6 rfl 4 (by decide) hlink ?_ hdg kk
  first | rfl | (rcases hz with rfl | rfl <;> rfl)
theorem xg_7_0 (hx : p.tables.exec = Jvm.exec) (hb : c.code = cc) {own : String} {index : Nat} {Ts : List Cond} (hts : ∀ w ∈ Ts, w.before args s = true) (hin : ∀ w ∈ wsX70, w ∈ Ts) (hown : s.vm.findClass own = some m.cls) (I : IX g s M H locs) (hlink : Cond.fieldLink own index (TX7 0).1 (TX7 0).2.1 (TX7 0).2.2.1 ∈ Ts) (hdg : decode cc pc = .ok (.getfield index, 3)) (kk : W p l e R s m args below meth c H locs cells slots Q (F0 m (pc + 3) ls (.int (i32 (M 7 0)) :: rest))) : W p l e R s m args below meth c H locs cells slots Q (F0 m pc ls (.ref (g.2.2.2 7) :: rest)) := by
  refine g_get (ci := 7) (C := RX7) (T := TX7) (n := 3) (v := .int (i32 (M 7 0))) hx hb hts hin hown I 7 (by omega) (by omega) obX_7 rfl 0 (by decide) hlink ?_ hdg kk
  first | rfl | (rcases hz with rfl | rfl <;> rfl)
theorem xp_7_0 (hx : p.tables.exec = Jvm.exec) (hb : c.code = cc) {own : String} {index : Nat} {Ts : List Cond} (hts : ∀ w ∈ Ts, w.before args s = true) (hin : ∀ w ∈ wsX70, w ∈ Ts) (hown : s.vm.findClass own = some m.cls) (I : IX g s M H locs) (hlink : Cond.fieldLink own index (TX7 0).1 (TX7 0).2.1 (TX7 0).2.2.1 ∈ Ts) {x : Int} (hxr : inR x) (hdg : decode cc pc = .ok (.putfield index, 3)) (kk : ∀ (H1 : Heap) (locs1 : List Loc) (M1 : Mem), M1 = mset M 7 0 x → IX g s M1 H1 locs1 → W p l e R s m args below meth c H1 locs1 cells slots Q (F0 m (pc + 3) ls rest)) : W p l e R s m args below meth c H locs cells slots Q (F0 m pc ls (.int (i32 x) :: .ref (g.2.2.2 7) :: rest)) :=
  g_put (ci := 7) (C := RX7) (T := TX7) (n := 3) hx hb hts hin tyX7 tyX7_ok nmX7 hown I 7 (by omega) (by omega) obX_7 rfl 0 (by decide) hlink rfl hxr rfl (Nat.le_of_ble_eq_true rfl) (by rw [obX_7]; rfl) hdg (fun H1 locs1 I1 => kk H1 locs1 _ rfl I1)
theorem xg_7_1 (hx : p.tables.exec = Jvm.exec) (hb : c.code = cc) {own : String} {index : Nat} {Ts : List Cond} (hts : ∀ w ∈ Ts, w.before args s = true) (hin : ∀ w ∈ wsX70, w ∈ Ts) (hown : s.vm.findClass own = some m.cls) (I : IX g s M H locs) (hlink : Cond.fieldLink own index (TX7 1).1 (TX7 1).2.1 (TX7 1).2.2.1 ∈ Ts) (hdg : decode cc pc = .ok (.getfield index, 3)) (kk : W p l e R s m args below meth c H locs cells slots Q (F0 m (pc + 3) ls (.ref (g.2.2.2 27) :: rest))) : W p l e R s m args below meth c H locs cells slots Q (F0 m pc ls (.ref (g.2.2.2 7) :: rest)) := by
  refine g_get (ci := 7) (C := RX7) (T := TX7) (n := 3) (v := .ref (g.2.2.2 27)) hx hb hts hin hown I 7 (by omega) (by omega) obX_7 rfl 1 (by decide) hlink ?_ hdg kk
  first | rfl | (rcases hz with rfl | rfl <;> rfl)
theorem xg_7_2 (hx : p.tables.exec = Jvm.exec) (hb : c.code = cc) {own : String} {index : Nat} {Ts : List Cond} (hts : ∀ w ∈ Ts, w.before args s = true) (hin : ∀ w ∈ wsX70, w ∈ Ts) (hown : s.vm.findClass own = some m.cls) (I : IX g s M H locs) (hlink : Cond.fieldLink own index (TX7 2).1 (TX7 2).2.1 (TX7 2).2.2.1 ∈ Ts) (hdg : decode cc pc = .ok (.getfield index, 3)) (kk : W p l e R s m args below meth c H locs cells slots Q (F0 m (pc + 3) ls (.ref (g.2.2.2 (8 + 1)) :: rest))) : W p l e R s m args below meth c H locs cells slots Q (F0 m pc ls (.ref (g.2.2.2 7) :: rest)) := by
  refine g_get (ci := 7) (C := RX7) (T := TX7) (n := 3) (v := .ref (g.2.2.2 (8 + 1))) hx hb hts hin hown I 7 (by omega) (by omega) obX_7 rfl 2 (by decide) hlink ?_ hdg kk
  first | rfl | (rcases hz with rfl | rfl <;> rfl)
theorem xg_N_0 {z : Int} (hz : z = 0 ∨ z = 1) (hx : p.tables.exec = Jvm.exec) (hb : c.code = cc) {own : String} {index : Nat} {Ts : List Cond} (hts : ∀ w ∈ Ts, w.before args s = true) (hin : ∀ w ∈ wsX50, w ∈ Ts) (hown : s.vm.findClass own = some m.cls) (I : IX g s M H locs) (hlink : Cond.fieldLink own index (TX5 0).1 (TX5 0).2.1 (TX5 0).2.2.1 ∈ Ts) (hdg : decode cc pc = .ok (.getfield index, 3)) (kk : W p l e R s m args below meth c H locs cells slots Q (F0 m (pc + 3) ls (.int (i32 (M (8 + z) 0)) :: rest))) : W p l e R s m args below meth c H locs cells slots Q (F0 m pc ls (.ref (g.2.2.2 (8 + z)) :: rest)) := by
  refine g_get (ci := 5) (C := RX5) (T := TX5) (n := 9) (v := .int (i32 (M (8 + z) 0))) hx hb hts hin hown I (8 + z) (by omega) (by omega) (obX_N hz) rfl 0 (by decide) hlink ?_ hdg kk
  first | rfl | (rcases hz with rfl | rfl <;> rfl)
theorem xp_N_0 {z : Int} (hz : z = 0 ∨ z = 1) (hx : p.tables.exec = Jvm.exec) (hb : c.code = cc) {own : String} {index : Nat} {Ts : List Cond} (hts : ∀ w ∈ Ts, w.before args s = true) (hin : ∀ w ∈ wsX50, w ∈ Ts) (hown : s.vm.findClass own = some m.cls) (I : IX g s M H locs) (hlink : Cond.fieldLink own index (TX5 0).1 (TX5 0).2.1 (TX5 0).2.2.1 ∈ Ts) {x : Int} (hxr : inR x) (hdg : decode cc pc = .ok (.putfield index, 3)) (kk : ∀ (H1 : Heap) (locs1 : List Loc) (M1 : Mem), M1 = mset M (8 + z) 0 x → IX g s M1 H1 locs1 → W p l e R s m args below meth c H1 locs1 cells slots Q (F0 m (pc + 3) ls rest)) : W p l e R s m args below meth c H locs cells slots Q (F0 m pc ls (.int (i32 x) :: .ref (g.2.2.2 (8 + z)) :: rest)) :=
  g_put (ci := 5) (C := RX5) (T := TX5) (n := 9) hx hb hts hin tyX5 tyX5_ok nmX5 hown I (8 + z) (by omega) (by omega) (obX_N hz) rfl 0 (by decide) hlink rfl hxr rfl (Nat.le_of_ble_eq_true rfl) (by rw [(obX_N hz)]; rfl) hdg (fun H1 locs1 I1 => kk H1 locs1 _ rfl I1)
theorem xg_N_1 {z : Int} (hz : z = 0 ∨ z = 1) (hx : p.tables.exec = Jvm.exec) (hb : c.code = cc) {own : String} {index : Nat} {Ts : List Cond} (hts : ∀ w ∈ Ts, w.before args s = true) (hin : ∀ w ∈ wsX50, w ∈ Ts) (hown : s.vm.findClass own = some m.cls) (I : IX g s M H locs) (hlink : Cond.fieldLink own index (TX5 1).1 (TX5 1).2.1 (TX5 1).2.2.1 ∈ Ts) (hdg : decode cc pc = .ok (.getfield index, 3)) (kk : W p l e R s m args below meth c H locs cells slots Q (F0 m (pc + 3) ls (.int (i32 (M (8 + z) 1)) :: rest))) : W p l e R s m args below meth c H locs cells slots Q (F0 m pc ls (.ref (g.2.2.2 (8 + z)) :: rest)) := by
  refine g_get (ci := 5) (C := RX5) (T := TX5) (n := 9) (v := .int (i32 (M (8 + z) 1))) hx hb hts hin hown I (8 + z) (by omega) (by omega) (obX_N hz) rfl 1 (by decide) hlink ?_ hdg kk
  first | rfl | (rcases hz with rfl | rfl <;> rfl)
theorem xp_N_1 {z : Int} (hz : z = 0 ∨ z = 1) (hx : p.tables.exec = Jvm.exec) (hb : c.code = cc) {own : String} {index : Nat} {Ts : List Cond} (hts : ∀ w ∈ Ts, w.before args s = true) (hin : ∀ w ∈ wsX50, w ∈ Ts) (hown : s.vm.findClass own = some m.cls) (I : IX g s M H locs) (hlink : Cond.fieldLink own index (TX5 1).1 (TX5 1).2.1 (TX5 1).2.2.1 ∈ Ts) {x : Int} (hxr : inR x) (hdg : decode cc pc = .ok (.putfield index, 3)) (kk : ∀ (H1 : Heap) (locs1 : List Loc) (M1 : Mem), M1 = mset M (8 + z) 1 x → IX g s M1 H1 locs1 → W p l e R s m args below meth c H1 locs1 cells slots Q (F0 m (pc + 3) ls rest)) : W p l e R s m args below meth c H locs cells slots Q (F0 m pc ls (.int (i32 x) :: .ref (g.2.2.2 (8 + z)) :: rest)) :=
  g_put (ci := 5) (C := RX5) (T := TX5) (n := 9) hx hb hts hin tyX5 tyX5_ok nmX5 hown I (8 + z) (by omega) (by omega) (obX_N hz) rfl 1 (by decide) hlink rfl hxr rfl (Nat.le_of_ble_eq_true rfl) (by rw [(obX_N hz)]; rfl) hdg (fun H1 locs1 I1 => kk H1 locs1 _ rfl I1)
theorem xg_N_2 {z : Int} (hz : z = 0 ∨ z = 1) (hx : p.tables.exec = Jvm.exec) (hb : c.code = cc) {own : String} {index : Nat} {Ts : List Cond} (hts : ∀ w ∈ Ts, w.before args s = true) (hin : ∀ w ∈ wsX50, w ∈ Ts) (hown : s.vm.findClass own = some m.cls) (I : IX g s M H locs) (hlink : Cond.fieldLink own index (TX5 2).1 (TX5 2).2.1 (TX5 2).2.2.1 ∈ Ts) (hdg : decode cc pc = .ok (.getfield index, 3)) (kk : W p l e R s m args below meth c H locs cells slots Q (F0 m (pc + 3) ls (.int (i32 (M (8 + z) 2)) :: rest))) : W p l e R s m args below meth c H locs cells slots Q (F0 m pc ls (.ref (g.2.2.2 (8 + z)) :: rest)) := by
  refine g_get (ci := 5) (C := RX5) (T := TX5) (n := 9) (v := .int (i32 (M (8 + z) 2))) hx hb hts hin hown I (8 + z) (by omega) (by omega) (obX_N hz) rfl 2 (by decide) hlink ?_ hdg kk
  first | rfl | (rcases hz with rfl | rfl <;> rfl)
theorem xp_N_2 {z : Int} (hz : z = 0 ∨ z = 1) (hx : p.tables.exec = Jvm.exec) (hb : c.code = cc) {own : String} {index : Nat} {Ts : List Cond} (hts : ∀ w ∈ Ts, w.before args s = true) (hin : ∀ w ∈ wsX50, w ∈ Ts) (hown : s.vm.findClass own = some m.cls) (I : IX g s M H locs) (hlink : Cond.fieldLink own index (TX5 2).1 (TX5 2).2.1 (TX5 2).2.2.1 ∈ Ts) {x : Int} (hxr : inR x) (hdg : decode cc pc = .ok (.putfield index, 3)) (kk : ∀ (H1 : Heap) (locs1 : List Loc) (M1 : Mem), M1 = mset M (8 + z) 2 x → IX g s M1 H1 locs1 → W p l e R s m args below meth c H1 locs1 cells slots Q (F0 m (pc + 3) ls rest)) : W p l e R s m args below meth c H locs cells slots Q (F0 m pc ls (.int (i32 x) :: .ref (g.2.2.2 (8 + z)) :: rest)) :=
  g_put (ci := 5) (C := RX5) (T := TX5) (n := 9) hx hb hts hin tyX5 tyX5_ok nmX5 hown I (8 + z) (by omega) (by omega) (obX_N hz) rfl 2 (by decide) hlink rfl hxr rfl (Nat.le_of_ble_eq_true rfl) (by rw [(obX_N hz)]; rfl) hdg (fun H1 locs1 I1 => kk H1 locs1 _ rfl I1)
theorem xg_N_3 {z : Int} (hz : z = 0 ∨ z = 1) (hx : p.tables.exec = Jvm.exec) (hb : c.code = cc) {own : String} {index : Nat} {Ts : List Cond} (hts : ∀ w ∈ Ts, w.before args s = true) (hin : ∀ w ∈ wsX50, w ∈ Ts) (hown : s.vm.findClass own = some m.cls) (I : IX g s M H locs) (hlink : Cond.fieldLink own index (TX5 3).1 (TX5 3).2.1 (TX5 3).2.2.1 ∈ Ts) (hdg : decode cc pc = .ok (.getfield index, 3)) (kk : W p l e R s m args below meth c H locs cells slots Q (F0 m (pc + 3) ls (.ref (g.2.2.2 (28 + z)) :: rest))) : W p l e R s m args below meth c H locs cells slots Q (F0 m pc ls (.ref (g.2.2.2 (8 + z)) :: rest)) := by
  refine g_get (ci := 5) (C := RX5) (T := TX5) (n := 9) (v := .ref (g.2.2.2 (28 + z))) hx hb hts hin hown I (8 + z) (by omega) (by omega) (obX_N hz) rfl 3 (by decide) hlink ?_ hdg kk
  first | rfl | (rcases hz with rfl | rfl <;> rfl)
theorem xg_N_4 {z : Int} (hz : z = 0 ∨ z = 1) (hx : p.tables.exec = Jvm.exec) (hb : c.code = cc) {own : String} {index : Nat} {Ts : List Cond} (hts : ∀ w ∈ Ts, w.before args s = true) (hin : ∀ w ∈ wsX50, w ∈ Ts) (hown : s.vm.findClass own = some m.cls) (I : IX g s M H locs) (hlink : Cond.fieldLink own index (TX5 4).1 (TX5 4).2.1 (TX5 4).2.2.1 ∈ Ts) (hdg : decode cc pc = .ok (.getfield index, 3)) (kk : W p l e R s m args below meth c H locs cells slots Q (F0 m (pc + 3) ls (.ref (g.2.2.2 (30 + z)) :: rest))) : W p l e R s m args below meth c H locs cells slots Q (F0 m pc ls (.ref (g.2.2.2 (8 + z)) :: rest)) := by
  refine g_get (ci := 5) (C := RX5) (T := TX5) (n := 9) (v := .ref (g.2.2.2 (30 + z))) hx hb hts hin hown I (8 + z) (by omega) (by omega) (obX_N hz) rfl 4 (by decide) hlink ?_ hdg kk
  first | rfl | (rcases hz with rfl | rfl <;> rfl)
theorem xg_N_5 {z : Int} (hz : z = 0 ∨ z = 1) (hx : p.tables.exec = Jvm.exec) (hb : c.code = cc) {own : String} {index : Nat} {Ts : List Cond} (hts : ∀ w ∈ Ts, w.before args s = true) (hin : ∀ w ∈ wsX50, w ∈ Ts) (hown : s.vm.findClass own = some m.cls) (I : IX g s M H locs) (hlink : Cond.fieldLink own index (TX5 5).1 (TX5 5).2.1 (TX5 5).2.2.1 ∈ Ts) (hdg : decode cc pc = .ok (.getfield index, 3)) (kk : W p l e R s m args below meth c H locs cells slots Q (F0 m (pc + 3) ls (.ref (g.2.2.2 (32 + z)) :: rest))) : W p l e R s m args below meth c H locs cells slots Q (F0 m pc ls (.ref (g.2.2.2 (8 + z)) :: rest)) := by
  refine g_get (ci := 5) (C := RX5) (T := TX5) (n := 9) (v := .ref (g.2.2.2 (32 + z))) hx hb hts hin hown I (8 + z) (by omega) (by omega) (obX_N hz) rfl 5 (by decide) hlink ?_ hdg kk
  first | rfl | (rcases hz with rfl | rfl <;> rfl)
theorem xg_N_6 {z : Int} (hz : z = 0 ∨ z = 1) (hx : p.tables.exec = Jvm.exec) (hb : c.code = cc) {own : String} {index : Nat} {Ts : List Cond} (hts : ∀ w ∈ Ts, w.before args s = true) (hin : ∀ w ∈ wsX50, w ∈ Ts) (hown : s.vm.findClass own = some m.cls) (I : IX g s M H locs) (hlink : Cond.fieldLink own index (TX5 6).1 (TX5 6).2.1 (TX5 6).2.2.1 ∈ Ts) (hdg : decode cc pc = .ok (.getfield index, 3)) (kk : W p l e R s m args below meth c H locs cells slots Q (F0 m (pc + 3) ls (.ref (g.2.2.2 (34 + z)) :: rest))) : W p l e R s m args below meth c H locs cells slots Q (F0 m pc ls (.ref (g.2.2.2 (8 + z)) :: rest)) := by
  refine g_get (ci := 5) (C := RX5) (T := TX5) (n := 9) (v := .ref (g.2.2.2 (34 + z))) hx hb hts hin hown I (8 + z) (by omega) (by omega) (obX_N hz) rfl 6 (by decide) hlink ?_ hdg kk
  first | rfl | (rcases hz with rfl | rfl <;> rfl)
theorem xg_N_7 {z : Int} (hz : z = 0 ∨ z = 1) (hx : p.tables.exec = Jvm.exec) (hb : c.code = cc) {own : String} {index : Nat} {Ts : List Cond} (hts : ∀ w ∈ Ts, w.before args s = true) (hin : ∀ w ∈ wsX50, w ∈ Ts) (hown : s.vm.findClass own = some m.cls) (I : IX g s M H locs) (hlink : Cond.fieldLink own index (TX5 7).1 (TX5 7).2.1 (TX5 7).2.2.1 ∈ Ts) (hdg : decode cc pc = .ok (.getfield index, 3)) (kk : W p l e R s m args below meth c H locs cells slots Q (F0 m (pc + 3) ls (.ref (g.2.2.2 (36 + z)) :: rest))) : W p l e R s m args below meth c H locs cells slots Q (F0 m pc ls (.ref (g.2.2.2 (8 + z)) :: rest)) := by
  refine g_get (ci := 5) (C := RX5) (T := TX5) (n := 9) (v := .ref (g.2.2.2 (36 + z))) hx hb hts hin hown I (8 + z) (by omega) (by omega) (obX_N hz) rfl 7 (by decide) hlink ?_ hdg kk
  first | rfl | (rcases hz with rfl | rfl <;> rfl)
theorem xg_N_8 {z : Int} (hz : z = 0 ∨ z = 1) (hx : p.tables.exec = Jvm.exec) (hb : c.code = cc) {own : String} {index : Nat} {Ts : List Cond} (hts : ∀ w ∈ Ts, w.before args s = true) (hin : ∀ w ∈ wsX50, w ∈ Ts) (hown : s.vm.findClass own = some m.cls) (I : IX g s M H locs) (hlink : Cond.fieldLink own index (TX5 8).1 (TX5 8).2.1 (TX5 8).2.2.1 ∈ Ts) (hdg : decode cc pc = .ok (.getfield index, 3)) (kk : W p l e R s m args below meth c H locs cells slots Q (F0 m (pc + 3) ls (.ref (g.2.2.2 (38 + z)) :: rest))) : W p l e R s m args below meth c H locs cells slots Q (F0 m pc ls (.ref (g.2.2.2 (8 + z)) :: rest)) := by
  refine g_get (ci := 5) (C := RX5) (T := TX5) (n := 9) (v := .ref (g.2.2.2 (38 + z))) hx hb hts hin hown I (8 + z) (by omega) (by omega) (obX_N hz) rfl 8 (by decide) hlink ?_ hdg kk
  first | rfl | (rcases hz with rfl | rfl <;> rfl)
theorem rg_0_0 (hx : p.tables.exec = Jvm.exec) (hb : c.code = cc) {own : String} {index : Nat} {Ts : List Cond} (hts : ∀ w ∈ Ts, w.before args s = true) (hin : ∀ w ∈ wsX90, w ∈ Ts) (hown : s.vm.findClass own = some m.cls) (I : IR g s M H locs) (hlink : Cond.fieldLink own index (TX9 0).1 (TX9 0).2.1 (TX9 0).2.2.1 ∈ Ts) (hdg : decode cc pc = .ok (.getfield index, 3)) (kk : W p l e R s m args below meth c H locs cells slots Q (F0 m (pc + 3) ls (.int (i32 (M 0 0)) :: rest))) : W p l e R s m args below meth c H locs cells slots Q (F0 m pc ls (.ref (g.2.2.2 0) :: rest)) := by
  refine g_get (ci := 9) (C := RX9) (T := TX9) (n := 31) (v := .int (i32 (M 0 0))) hx hb hts hin hown I 0 (by omega) (by omega) obR_0 rfl 0 (by decide) hlink ?_ hdg kk
  first | rfl | (rcases hz with rfl | rfl <;> rfl)
theorem rp_0_0 (hx : p.tables.exec = Jvm.exec) (hb : c.code = cc) {own : String} {index : Nat} {Ts : List Cond} (hts : ∀ w ∈ Ts, w.before args s = true) (hin : ∀ w ∈ wsX90, w ∈ Ts) (hown : s.vm.findClass own = some m.cls) (I : IR g s M H locs) (hlink : Cond.fieldLink own index (TX9 0).1 (TX9 0).2.1 (TX9 0).2.2.1 ∈ Ts) {x : Int} (hxr : inR x) (hdg : decode cc pc = .ok (.putfield index, 3)) (kk : ∀ (H1 : Heap) (locs1 : List Loc) (M1 : Mem), M1 = mset M 0 0 x → IR g s M1 H1 locs1 → W p l e R s m args below meth c H1 locs1 cells slots Q (F0 m (pc + 3) ls rest)) : W p l e R s m args below meth c H locs cells slots Q (F0 m pc ls (.int (i32 x) :: .ref (g.2.2.2 0) :: rest)) :=
  g_put (ci := 9) (C := RX9) (T := TX9) (n := 31) hx hb hts hin tyX9 tyX9_ok nmX9 hown I 0 (by omega) (by omega) obR_0 rfl 0 (by decide) hlink rfl hxr rfl (Nat.le_of_ble_eq_true rfl) (by rw [obR_0]; rfl) hdg (fun H1 locs1 I1 => kk H1 locs1 _ rfl I1)
theorem rg_0_1 (hx : p.tables.exec = Jvm.exec) (hb : c.code = cc) {own : String} {index : Nat} {Ts : List Cond} (hts : ∀ w ∈ Ts, w.before args s = true) (hin : ∀ w ∈ wsX90, w ∈ Ts) (hown : s.vm.findClass own = some m.cls) (I : IR g s M H locs) (hlink : Cond.fieldLink own index (TX9 1).1 (TX9 1).2.1 (TX9 1).2.2.1 ∈ Ts) (hdg : decode cc pc = .ok (.getfield index, 3)) (kk : W p l e R s m args below meth c H locs cells slots Q (F0 m (pc + 3) ls (.int (i32 (M 0 1)) :: rest))) : W p l e R s m args below meth c H locs cells slots Q (F0 m pc ls (.ref (g.2.2.2 0) :: rest)) := by
  refine g_get (ci := 9) (C := RX9) (T := TX9) (n := 31) (v := .int (i32 (M 0 1))) hx hb hts hin hown I 0 (by omega) (by omega) obR_0 rfl 1 (by decide) hlink ?_ hdg kk
  first | rfl | (rcases hz with rfl | rfl <;> rfl)
theorem rp_0_1 (hx : p.tables.exec = Jvm.exec) (hb : c.code = cc) {own : String} {index : Nat} {Ts : List Cond} (hts : ∀ w ∈ Ts, w.before args s = true) (hin : ∀ w ∈ wsX90, w ∈ Ts) (hown : s.vm.findClass own = some m.cls) (I : IR g s M H locs) (hlink : Cond.fieldLink own index (TX9 1).1 (TX9 1).2.1 (TX9 1).2.2.1 ∈ Ts) {x : Int} (hxr : inR x) (hdg : decode cc pc = .ok (.putfield index, 3)) (kk : ∀ (H1 : Heap) (locs1 : List Loc) (M1 : Mem), M1 = mset M 0 1 x → IR g s M1 H1 locs1 → W p l e R s m args below meth c H1 locs1 cells slots Q (F0 m (pc + 3) ls rest)) : W p l e R s m args below meth c H locs cells slots Q (F0 m pc ls (.int (i32 x) :: .ref (g.2.2.2 0) :: rest)) :=
  g_put (ci := 9) (C := RX9) (T := TX9) (n := 31) hx hb hts hin tyX9 tyX9_ok nmX9 hown I 0 (by omega) (by omega) obR_0 rfl 1 (by decide) hlink rfl hxr rfl (Nat.le_of_ble_eq_true rfl) (by rw [obR_0]; rfl) hdg (fun H1 locs1 I1 => kk H1 locs1 _ rfl I1)
theorem rg_0_2 (hx : p.tables.exec = Jvm.exec) (hb : c.code = cc) {own : String} {index : Nat} {Ts : List Cond} (hts : ∀ w ∈ Ts, w.before args s = true) (hin : ∀ w ∈ wsX90, w ∈ Ts) (hown : s.vm.findClass own = some m.cls) (I : IR g s M H locs) (hlink : Cond.fieldLink own index (TX9 2).1 (TX9 2).2.1 (TX9 2).2.2.1 ∈ Ts) (hdg : decode cc pc = .ok (.getfield index, 3)) (kk : W p l e R s m args below meth c H locs cells slots Q (F0 m (pc + 3) ls (.ref (g.2.2.2 1) :: rest))) : W p l e R s m args below meth c H locs cells slots Q (F0 m pc ls (.ref (g.2.2.2 0) :: rest)) := by
  refine g_get (ci := 9) (C := RX9) (T := TX9) (n := 31) (v := .ref (g.2.2.2 1)) hx hb hts hin hown I 0 (by omega) (by omega) obR_0 rfl 2 (by decide) hlink ?_ hdg kk
  first | rfl | (rcases hz with rfl | rfl <;> rfl)
theorem rg_0_3 (hx : p.tables.exec = Jvm.exec) (hb : c.code = cc) {own : String} {index : Nat} {Ts : List Cond} (hts : ∀ w ∈ Ts, w.before args s = true) (hin : ∀ w ∈ wsX90, w ∈ Ts) (hown : s.vm.findClass own = some m.cls) (I : IR g s M H locs) (hlink : Cond.fieldLink own index (TX9 3).1 (TX9 3).2.1 (TX9 3).2.2.1 ∈ Ts) (hdg : decode cc pc = .ok (.getfield index, 3)) (kk : W p l e R s m args below meth c H locs cells slots Q (F0 m (pc + 3) ls (.ref (g.2.2.2 2) :: rest))) : W p l e R s m args below meth c H locs cells slots Q (F0 m pc ls (.ref (g.2.2.2 0) :: rest)) := by
  refine g_get (ci := 9) (C := RX9) (T := TX9) (n := 31) (v := .ref (g.2.2.2 2)) hx hb hts hin hown I 0 (by omega) (by omega) obR_0 rfl 3 (by decide) hlink ?_ hdg kk
  first | rfl | (rcases hz with rfl | rfl <;> rfl)
theorem rg_0_4 (hx : p.tables.exec = Jvm.exec) (hb : c.code = cc) {own : String} {index : Nat} {Ts : List Cond} (hts : ∀ w ∈ Ts, w.before args s = true) (hin : ∀ w ∈ wsX90, w ∈ Ts) (hown : s.vm.findClass own = some m.cls) (I : IR g s M H locs) (hlink : Cond.fieldLink own index (TX9 4).1 (TX9 4).2.1 (TX9 4).2.2.1 ∈ Ts) (hdg : decode cc pc = .ok (.getfield index, 3)) (kk : W p l e R s m args below meth c H locs cells slots Q (F0 m (pc + 3) ls (.ref (g.2.2.2 3) :: rest))) : W p l e R s m args below meth c H locs cells slots Q (F0 m pc ls (.ref (g.2.2.2 0) :: rest)) := by
  refine g_get (ci := 9) (C := RX9) (T := TX9) (n := 31) (v := .ref (g.2.2.2 3)) hx hb hts hin hown I 0 (by omega) (by omega) obR_0 rfl 4 (by decide) hlink ?_ hdg kk
  first | rfl | (rcases hz with rfl | rfl <;> rfl)
theorem rg_0_5 (hx : p.tables.exec = Jvm.exec) (hb : c.code = cc) {own : String} {index : Nat} {Ts : List Cond} (hts : ∀ w ∈ Ts, w.before args s = true) (hin : ∀ w ∈ wsX90, w ∈ Ts) (hown : s.vm.findClass own = some m.cls) (I : IR g s M H locs) (hlink : Cond.fieldLink own index (TX9 5).1 (TX9 5).2.1 (TX9 5).2.2.1 ∈ Ts) (hdg : decode cc pc = .ok (.getfield index, 3)) (kk : W p l e R s m args below meth c H locs cells slots Q (F0 m (pc + 3) ls (.int (i32 (M 0 5)) :: rest))) : W p l e R s m args below meth c H locs cells slots Q (F0 m pc ls (.ref (g.2.2.2 0) :: rest)) := by
  refine g_get (ci := 9) (C := RX9) (T := TX9) (n := 31) (v := .int (i32 (M 0 5))) hx hb hts hin hown I 0 (by omega) (by omega) obR_0 rfl 5 (by decide) hlink ?_ hdg kk
  first | rfl | (rcases hz with rfl | rfl <;> rfl)
theorem rp_0_5 (hx : p.tables.exec = Jvm.exec) (hb : c.code = cc) {own : String} {index : Nat} {Ts : List Cond} (hts : ∀ w ∈ Ts, w.before args s = true) (hin : ∀ w ∈ wsX90, w ∈ Ts) (hown : s.vm.findClass own = some m.cls) (I : IR g s M H locs) (hlink : Cond.fieldLink own index (TX9 5).1 (TX9 5).2.1 (TX9 5).2.2.1 ∈ Ts) {x : Int} (hxr : inR x) (hdg : decode cc pc = .ok (.putfield index, 3)) (kk : ∀ (H1 : Heap) (locs1 : List Loc) (M1 : Mem), M1 = mset M 0 5 x → IR g s M1 H1 locs1 → W p l e R s m args below meth c H1 locs1 cells slots Q (F0 m (pc + 3) ls rest)) : W p l e R s m args below meth c H locs cells slots Q (F0 m pc ls (.int (i32 x) :: .ref (g.2.2.2 0) :: rest)) :=
  g_put (ci := 9) (C := RX9) (T := TX9) (n := 31) hx hb hts hin tyX9 tyX9_ok nmX9 hown I 0 (by omega) (by omega) obR_0 rfl 5 (by decide) hlink rfl hxr rfl (Nat.le_of_ble_eq_true rfl) (by rw [obR_0]; rfl) hdg (fun H1 locs1 I1 => kk H1 locs1 _ rfl I1)
theorem rg_0_6 (hx : p.tables.exec = Jvm.exec) (hb : c.code = cc) {own : String} {index : Nat} {Ts : List Cond} (hts : ∀ w ∈ Ts, w.before args s = true) (hin : ∀ w ∈ wsX90, w ∈ Ts) (hown : s.vm.findClass own = some m.cls) (I : IR g s M H locs) (hlink : Cond.fieldLink own index (TX9 6).1 (TX9 6).2.1 (TX9 6).2.2.1 ∈ Ts) (hdg : decode cc pc = .ok (.getfield index, 3)) (kk : W p l e R s m args below meth c H locs cells slots Q (F0 m (pc + 3) ls (.ref (g.2.2.2 4) :: rest))) : W p l e R s m args below meth c H locs cells slots Q (F0 m pc ls (.ref (g.2.2.2 0) :: rest)) := by
  refine g_get (ci := 9) (C := RX9) (T := TX9) (n := 31) (v := .ref (g.2.2.2 4)) hx hb hts hin hown I 0 (by omega) (by omega) obR_0 rfl 6 (by decide) hlink ?_ hdg kk
  first | rfl | (rcases hz with rfl | rfl <;> rfl)
theorem rg_0_7 (hx : p.tables.exec = Jvm.exec) (hb : c.code = cc) {own : String} {index : Nat} {Ts : List Cond} (hts : ∀ w ∈ Ts, w.before args s = true) (hin : ∀ w ∈ wsX90, w ∈ Ts) (hown : s.vm.findClass own = some m.cls) (I : IR g s M H locs) (hlink : Cond.fieldLink own index (TX9 7).1 (TX9 7).2.1 (TX9 7).2.2.1 ∈ Ts) (hdg : decode cc pc = .ok (.getfield index, 3)) (kk : W p l e R s m args below meth c H locs cells slots Q (F0 m (pc + 3) ls (.ref (g.2.2.2 5) :: rest))) : W p l e R s m args below meth c H locs cells slots Q (F0 m pc ls (.ref (g.2.2.2 0) :: rest)) := by
  refine g_get (ci := 9) (C := RX9) (T := TX9) (n := 31) (v := .ref (g.2.2.2 5)) hx hb hts hin hown I 0 (by omega) (by omega) obR_0 rfl 7 (by decide) hlink ?_ hdg kk
  first | rfl | (rcases hz with rfl | rfl <;> rfl)
theorem rg_0_8 (hx : p.tables.exec = Jvm.exec) (hb : c.code = cc) {own : String} {index : Nat} {Ts : List Cond} (hts : ∀ w ∈ Ts, w.before args s = true) (hin : ∀ w ∈ wsX90, w ∈ Ts) (hown : s.vm.findClass own = some m.cls) (I : IR g s M H locs) (hlink : Cond.fieldLink own index (TX9 8).1 (TX9 8).2.1 (TX9 8).2.2.1 ∈ Ts) (hdg : decode cc pc = .ok (.getfield index, 3)) (kk : W p l e R s m args below meth c H locs cells slots Q (F0 m (pc + 3) ls (.ref (g.2.2.2 6) :: rest))) : W p l e R s m args below meth c H locs cells slots Q (F0 m pc ls (.ref (g.2.2.2 0) :: rest)) := by
  refine g_get (ci := 9) (C := RX9) (T := TX9) (n := 31) (v := .ref (g.2.2.2 6)) hx hb hts hin hown I 0 (by omega) (by omega) obR_0 rfl 8 (by decide) hlink ?_ hdg kk
  first | rfl | (rcases hz with rfl | rfl <;> rfl)
theorem rg_0_9 (hx : p.tables.exec = Jvm.exec) (hb : c.code = cc) {own : String} {index : Nat} {Ts : List Cond} (hts : ∀ w ∈ Ts, w.before args s = true) (hin : ∀ w ∈ wsX90, w ∈ Ts) (hown : s.vm.findClass own = some m.cls) (I : IR g s M H locs) (hlink : Cond.fieldLink own index (TX9 9).1 (TX9 9).2.1 (TX9 9).2.2.1 ∈ Ts) (hdg : decode cc pc = .ok (.getfield index, 3)) (kk : W p l e R s m args below meth c H locs cells slots Q (F0 m (pc + 3) ls (.int (i32 (M 0 9)) :: rest))) : W p l e R s m args below meth c H locs cells slots Q (F0 m pc ls (.ref (g.2.2.2 0) :: rest)) := by
  refine g_get (ci := 9) (C := RX9) (T := TX9) (n := 31) (v := .int (i32 (M 0 9))) hx hb hts hin hown I 0 (by omega) (by omega) obR_0 rfl 9 (by decide) hlink ?_ hdg kk
  first | rfl | (rcases hz with rfl | rfl <;> rfl)
theorem rp_0_9 (hx : p.tables.exec = Jvm.exec) (hb : c.code = cc) {own : String} {index : Nat} {Ts : List Cond} (hts : ∀ w ∈ Ts, w.before args s = true) (hin : ∀ w ∈ wsX90, w ∈ Ts) (hown : s.vm.findClass own = some m.cls) (I : IR g s M H locs) (hlink : Cond.fieldLink own index (TX9 9).1 (TX9 9).2.1 (TX9 9).2.2.1 ∈ Ts) {x : Int} (hxr : inR x) (hdg : decode cc pc = .ok (.putfield index, 3)) (kk : ∀ (H1 : Heap) (locs1 : List Loc) (M1 : Mem), M1 = mset M 0 9 x → IR g s M1 H1 locs1 → W p l e R s m args below meth c H1 locs1 cells slots Q (F0 m (pc + 3) ls rest)) : W p l e R s m args below meth c H locs cells slots Q (F0 m pc ls (.int (i32 x) :: .ref (g.2.2.2 0) :: rest)) :=
  g_put (ci := 9) (C := RX9) (T := TX9) (n := 31) hx hb hts hin tyX9 tyX9_ok nmX9 hown I 0 (by omega) (by omega) obR_0 rfl 9 (by decide) hlink rfl hxr rfl (Nat.le_of_ble_eq_true rfl) (by rw [obR_0]; rfl) hdg (fun H1 locs1 I1 => kk H1 locs1 _ rfl I1)
theorem rg_0_10 (hx : p.tables.exec = Jvm.exec) (hb : c.code = cc) {own : String} {index : Nat} {Ts : List Cond} (hts : ∀ w ∈ Ts, w.before args s = true) (hin : ∀ w ∈ wsX90, w ∈ Ts) (hown : s.vm.findClass own = some m.cls) (I : IR g s M H locs) (hlink : Cond.fieldLink own index (TX9 10).1 (TX9 10).2.1 (TX9 10).2.2.1 ∈ Ts) (hdg : decode cc pc = .ok (.getfield index, 3)) (kk : W p l e R s m args below meth c H locs cells slots Q (F0 m (pc + 3) ls (.int (i32 (M 0 10)) :: rest))) : W p l e R s m args below meth c H locs cells slots Q (F0 m pc ls (.ref (g.2.2.2 0) :: rest)) := by
  refine g_get (ci := 9) (C := RX9) (T := TX9) (n := 31) (v := .int (i32 (M 0 10))) hx hb hts hin hown I 0 (by omega) (by omega) obR_0 rfl 10 (by decide) hlink ?_ hdg kk
  first | rfl | (rcases hz with rfl | rfl <;> rfl)
theorem rp_0_10 (hx : p.tables.exec = Jvm.exec) (hb : c.code = cc) {own : String} {index : Nat} {Ts : List Cond} (hts : ∀ w ∈ Ts, w.before args s = true) (hin : ∀ w ∈ wsX90, w ∈ Ts) (hown : s.vm.findClass own = some m.cls) (I : IR g s M H locs) (hlink : Cond.fieldLink own index (TX9 10).1 (TX9 10).2.1 (TX9 10).2.2.1 ∈ Ts) {x : Int} (hxr : inR x) (hdg : decode cc pc = .ok (.putfield index, 3)) (kk : ∀ (H1 : Heap) (locs1 : List Loc) (M1 : Mem), M1 = mset M 0 10 x → IR g s M1 H1 locs1 → W p l e R s m args below meth c H1 locs1 cells slots Q (F0 m (pc + 3) ls rest)) : W p l e R s m args below meth c H locs cells slots Q (F0 m pc ls (.int (i32 x) :: .ref (g.2.2.2 0) :: rest)) :=
  g_put (ci := 9) (C := RX9) (T := TX9) (n := 31) hx hb hts hin tyX9 tyX9_ok nmX9 hown I 0 (by omega) (by omega) obR_0 rfl 10 (by decide) hlink rfl hxr rfl (Nat.le_of_ble_eq_true rfl) (by rw [obR_0]; rfl) hdg (fun H1 locs1 I1 => kk H1 locs1 _ rfl I1)
theorem rg_0_11 (hx : p.tables.exec = Jvm.exec) (hb : c.code = cc) {own : String} {index : Nat} {Ts : List Cond} (hts : ∀ w ∈ Ts, w.before args s = true) (hin : ∀ w ∈ wsX90, w ∈ Ts) (hown : s.vm.findClass own = some m.cls) (I : IR g s M H locs) (hlink : Cond.fieldLink own index (TX9 11).1 (TX9 11).2.1 (TX9 11).2.2.1 ∈ Ts) (hdg : decode cc pc = .ok (.getfield index, 3)) (kk : W p l e R s m args below meth c H locs cells slots Q (F0 m (pc + 3) ls (.ref (g.2.2.2 7) :: rest))) : W p l e R s m args below meth c H locs cells slots Q (F0 m pc ls (.ref (g.2.2.2 0) :: rest)) := by
  refine g_get (ci := 9) (C := RX9) (T := TX9) (n := 31) (v := .ref (g.2.2.2 7)) hx hb hts hin hown I 0 (by omega) (by omega) obR_0 rfl 11 (by decide) hlink ?_ hdg kk
  first | rfl | (rcases hz with rfl | rfl <;> rfl)
theorem rg_0_12 (hx : p.tables.exec = Jvm.exec) (hb : c.code = cc) {own : String} {index : Nat} {Ts : List Cond} (hts : ∀ w ∈ Ts, w.before args s = true) (hin : ∀ w ∈ wsX90, w ∈ Ts) (hown : s.vm.findClass own = some m.cls) (I : IR g s M H locs) (hlink : Cond.fieldLink own index (TX9 12).1 (TX9 12).2.1 (TX9 12).2.2.1 ∈ Ts) (hdg : decode cc pc = .ok (.getfield index, 3)) (kk : W p l e R s m args below meth c H locs cells slots Q (F0 m (pc + 3) ls (.ref (g.2.2.2 8) :: rest))) : W p l e R s m args below meth c H locs cells slots Q (F0 m pc ls (.ref (g.2.2.2 0) :: rest)) := by
  refine g_get (ci := 9) (C := RX9) (T := TX9) (n := 31) (v := .ref (g.2.2.2 8)) hx hb hts hin hown I 0 (by omega) (by omega) obR_0 rfl 12 (by decide) hlink ?_ hdg kk
  first | rfl | (rcases hz with rfl | rfl <;> rfl)
theorem rg_0_13 (hx : p.tables.exec = Jvm.exec) (hb : c.code = cc) {own : String} {index : Nat} {Ts : List Cond} (hts : ∀ w ∈ Ts, w.before args s = true) (hin : ∀ w ∈ wsX90, w ∈ Ts) (hown : s.vm.findClass own = some m.cls) (I : IR g s M H locs) (hlink : Cond.fieldLink own index (TX9 13).1 (TX9 13).2.1 (TX9 13).2.2.1 ∈ Ts) (hdg : decode cc pc = .ok (.getfield index, 3)) (kk : W p l e R s m args below meth c H locs cells slots Q (F0 m (pc + 3) ls (.ref (g.2.2.2 9) :: rest))) : W p l e R s m args below meth c H locs cells slots Q (F0 m pc ls (.ref (g.2.2.2 0) :: rest)) := by
  refine g_get (ci := 9) (C := RX9) (T := TX9) (n := 31) (v := .ref (g.2.2.2 9)) hx hb hts hin hown I 0 (by omega) (by omega) obR_0 rfl 13 (by decide) hlink ?_ hdg kk
  first | rfl | (rcases hz with rfl | rfl <;> rfl)
theorem rg_0_14 (hx : p.tables.exec = Jvm.exec) (hb : c.code = cc) {own : String} {index : Nat} {Ts : List Cond} (hts : ∀ w ∈ Ts, w.before args s = true) (hin : ∀ w ∈ wsX90, w ∈ Ts) (hown : s.vm.findClass own = some m.cls) (I : IR g s M H locs) (hlink : Cond.fieldLink own index (TX9 14).1 (TX9 14).2.1 (TX9 14).2.2.1 ∈ Ts) (hdg : decode cc pc = .ok (.getfield index, 3)) (kk : W p l e R s m args below meth c H locs cells slots Q (F0 m (pc + 3) ls (.ref (g.2.2.2 10) :: rest))) : W p l e R s m args below meth c H locs cells slots Q (F0 m pc ls (.ref (g.2.2.2 0) :: rest)) := by
  refine g_get (ci := 9) (C := RX9) (T := TX9) (n := 31) (v := .ref (g.2.2.2 10)) hx hb hts hin hown I 0 (by omega) (by omega) obR_0 rfl 14 (by decide) hlink ?_ hdg kk
  first | rfl | (rcases hz with rfl | rfl <;> rfl)
theorem rg_0_15 (hx : p.tables.exec = Jvm.exec) (hb : c.code = cc) {own : String} {index : Nat} {Ts : List Cond} (hts : ∀ w ∈ Ts, w.before args s = true) (hin : ∀ w ∈ wsX90, w ∈ Ts) (hown : s.vm.findClass own = some m.cls) (I : IR g s M H locs) (hlink : Cond.fieldLink own index (TX9 15).1 (TX9 15).2.1 (TX9 15).2.2.1 ∈ Ts) (hdg : decode cc pc = .ok (.getfield index, 3)) (kk : W p l e R s m args below meth c H locs cells slots Q (F0 m (pc + 3) ls (.ref (g.2.2.2 11) :: rest))) : W p l e R s m args below meth c H locs cells slots Q (F0 m pc ls (.ref (g.2.2.2 0) :: rest)) := by
  refine g_get (ci := 9) (C := RX9) (T := TX9) (n := 31) (v := .ref (g.2.2.2 11)) hx hb hts hin hown I 0 (by omega) (by omega) obR_0 rfl 15 (by decide) hlink ?_ hdg kk
  first | rfl | (rcases hz with rfl | rfl <;> rfl)
theorem rg_0_16 (hx : p.tables.exec = Jvm.exec) (hb : c.code = cc) {own : String} {index : Nat} {Ts : List Cond} (hts : ∀ w ∈ Ts, w.before args s = true) (hin : ∀ w ∈ wsX90, w ∈ Ts) (hown : s.vm.findClass own = some m.cls) (I : IR g s M H locs) (hlink : Cond.fieldLink own index (TX9 16).1 (TX9 16).2.1 (TX9 16).2.2.1 ∈ Ts) (hdg : decode cc pc = .ok (.getfield index, 3)) (kk : W p l e R s m args below meth c H locs cells slots Q (F0 m (pc + 3) ls (.ref (g.2.2.2 12) :: rest))) : W p l e R s m args below meth c H locs cells slots Q (F0 m pc ls (.ref (g.2.2.2 0) :: rest)) := by
  refine g_get (ci := 9) (C := RX9) (T := TX9) (n := 31) (v := .ref (g.2.2.2 12)) hx hb hts hin hown I 0 (by omega) (by omega) obR_0 rfl 16 (by decide) hlink ?_ hdg kk
  first | rfl | (rcases hz with rfl | rfl <;> rfl)
theorem rg_0_17 (hx : p.tables.exec = Jvm.exec) (hb : c.code = cc) {own : String} {index : Nat} {Ts : List Cond} (hts : ∀ w ∈ Ts, w.before args s = true) (hin : ∀ w ∈ wsX90, w ∈ Ts) (hown : s.vm.findClass own = some m.cls) (I : IR g s M H locs) (hlink : Cond.fieldLink own index (TX9 17).1 (TX9 17).2.1 (TX9 17).2.2.1 ∈ Ts) (hdg : decode cc pc = .ok (.getfield index, 3)) (kk : W p l e R s m args below meth c H locs cells slots Q (F0 m (pc + 3) ls (.ref (g.2.2.2 13) :: rest))) : W p l e R s m args below meth c H locs cells slots Q (F0 m pc ls (.ref (g.2.2.2 0) :: rest)) := by
  refine g_get (ci := 9) (C := RX9) (T := TX9) (n := 31) (v := .ref (g.2.2.2 13)) hx hb hts hin hown I 0 (by omega) (by omega) obR_0 rfl 17 (by decide) hlink ?_ hdg kk
  first | rfl | (rcases hz with rfl | rfl <;> rfl)
theorem rg_0_18 (hx : p.tables.exec = Jvm.exec) (hb : c.code = cc) {own : String} {index : Nat} {Ts : List Cond} (hts : ∀ w ∈ Ts, w.before args s = true) (hin : ∀ w ∈ wsX90, w ∈ Ts) (hown : s.vm.findClass own = some m.cls) (I : IR g s M H locs) (hlink : Cond.fieldLink own index (TX9 18).1 (TX9 18).2.1 (TX9 18).2.2.1 ∈ Ts) (hdg : decode cc pc = .ok (.getfield index, 3)) (kk : W p l e R s m args below meth c H locs cells slots Q (F0 m (pc + 3) ls (.ref (g.2.2.2 14) :: rest))) : W p l e R s m args below meth c H locs cells slots Q (F0 m pc ls (.ref (g.2.2.2 0) :: rest)) := by
  refine g_get (ci := 9) (C := RX9) (T := TX9) (n := 31) (v := .ref (g.2.2.2 14)) hx hb hts hin hown I 0 (by omega) (by omega) obR_0 rfl 18 (by decide) hlink ?_ hdg kk
  first | rfl | (rcases hz with rfl | rfl <;> rfl)
theorem rg_0_19 (hx : p.tables.exec = Jvm.exec) (hb : c.code = cc) {own : String} {index : Nat} {Ts : List Cond} (hts : ∀ w ∈ Ts, w.before args s = true) (hin : ∀ w ∈ wsX90, w ∈ Ts) (hown : s.vm.findClass own = some m.cls) (I : IR g s M H locs) (hlink : Cond.fieldLink own index (TX9 19).1 (TX9 19).2.1 (TX9 19).2.2.1 ∈ Ts) (hdg : decode cc pc = .ok (.getfield index, 3)) (kk : W p l e R s m args below meth c H locs cells slots Q (F0 m (pc + 3) ls (.ref (g.2.2.2 15) :: rest))) : W p l e R s m args below meth c H locs cells slots Q (F0 m pc ls (.ref (g.2.2.2 0) :: rest)) := by
  refine g_get (ci := 9) (C := RX9) (T := TX9) (n := 31) (v := .ref (g.2.2.2 15)) hx hb hts hin hown I 0 (by omega) (by omega) obR_0 rfl 19 (by decide) hlink ?_ hdg kk
  first | rfl | (rcases hz with rfl | rfl <;> rfl)
theorem rg_0_20 (hx : p.tables.exec = Jvm.exec) (hb : c.code = cc) {own : String} {index : Nat} {Ts : List Cond} (hts : ∀ w ∈ Ts, w.before args s = true) (hin : ∀ w ∈ wsX90, w ∈ Ts) (hown : s.vm.findClass own = some m.cls) (I : IR g s M H locs) (hlink : Cond.fieldLink own index (TX9 20).1 (TX9 20).2.1 (TX9 20).2.2.1 ∈ Ts) (hdg : decode cc pc = .ok (.getfield index, 3)) (kk : W p l e R s m args below meth c H locs cells slots Q (F0 m (pc + 3) ls (.ref (g.2.2.2 16) :: rest))) : W p l e R s m args below meth c H locs cells slots Q (F0 m pc ls (.ref (g.2.2.2 0) :: rest)) := by
  refine g_get (ci := 9) (C := RX9) (T := TX9) (n := 31) (v := .ref (g.2.2.2 16)) hx hb hts hin hown I 0 (by omega) (by omega) obR_0 rfl 20 (by decide) hlink ?_ hdg kk
  first | rfl | (rcases hz with rfl | rfl <;> rfl)
theorem rg_0_21 (hx : p.tables.exec = Jvm.exec) (hb : c.code = cc) {own : String} {index : Nat} {Ts : List Cond} (hts : ∀ w ∈ Ts, w.before args s = true) (hin : ∀ w ∈ wsX90, w ∈ Ts) (hown : s.vm.findClass own = some m.cls) (I : IR g s M H locs) (hlink : Cond.fieldLink own index (TX9 21).1 (TX9 21).2.1 (TX9 21).2.2.1 ∈ Ts) (hdg : decode cc pc = .ok (.getfield index, 3)) (kk : W p l e R s m args below meth c H locs cells slots Q (F0 m (pc + 3) ls (.ref (g.2.2.2 17) :: rest))) : W p l e R s m args below meth c H locs cells slots Q (F0 m pc ls (.ref (g.2.2.2 0) :: rest)) := by
  refine g_get (ci := 9) (C := RX9) (T := TX9) (n := 31) (v := .ref (g.2.2.2 17)) hx hb hts hin hown I 0 (by omega) (by omega) obR_0 rfl 21 (by decide) hlink ?_ hdg kk
  first | rfl | (rcases hz with rfl | rfl <;> rfl)
theorem rg_0_22 (hx : p.tables.exec = Jvm.exec) (hb : c.code = cc) {own : String} {index : Nat} {Ts : List Cond} (hts : ∀ w ∈ Ts, w.before args s = true) (hin : ∀ w ∈ wsX90, w ∈ Ts) (hown : s.vm.findClass own = some m.cls) (I : IR g s M H locs) (hlink : Cond.fieldLink own index (TX9 22).1 (TX9 22).2.1 (TX9 22).2.2.1 ∈ Ts) (hdg : decode cc pc = .ok (.getfield index, 3)) (kk : W p l e R s m args below meth c H locs cells slots Q (F0 m (pc + 3) ls (.ref (g.2.2.2 18) :: rest))) : W p l e R s m args below meth c H locs cells slots Q (F0 m pc ls (.ref (g.2.2.2 0) :: rest)) := by
  refine g_get (ci := 9) (C := RX9) (T := TX9) (n := 31) (v := .ref (g.2.2.2 18)) hx hb hts hin hown I 0 (by omega) (by omega) obR_0 rfl 22 (by decide) hlink ?_ hdg kk
  first | rfl | (rcases hz with rfl | rfl <;> rfl)
theorem rg_0_23 (hx : p.tables.exec = Jvm.exec) (hb : c.code = cc) {own : String} {index : Nat} {Ts : List Cond} (hts : ∀ w ∈ Ts, w.before args s = true) (hin : ∀ w ∈ wsX90, w ∈ Ts) (hown : s.vm.findClass own = some m.cls) (I : IR g s M H locs) (hlink : Cond.fieldLink own index (TX9 23).1 (TX9 23).2.1 (TX9 23).2.2.1 ∈ Ts) (hdg : decode cc pc = .ok (.getfield index, 3)) (kk : W p l e R s m args below meth c H locs cells slots Q (F0 m (pc + 3) ls (.ref (g.2.2.2 19) :: rest))) : W p l e R s m args below meth c H locs cells slots Q (F0 m pc ls (.ref (g.2.2.2 0) :: rest)) := by
  refine g_get (ci := 9) (C := RX9) (T := TX9) (n := 31) (v := .ref (g.2.2.2 19)) hx hb hts hin hown I 0 (by omega) (by omega) obR_0 rfl 23 (by decide) hlink ?_ hdg kk
  first | rfl | (rcases hz with rfl | rfl <;> rfl)
theorem rg_0_24 (hx : p.tables.exec = Jvm.exec) (hb : c.code = cc) {own : String} {index : Nat} {Ts : List Cond} (hts : ∀ w ∈ Ts, w.before args s = true) (hin : ∀ w ∈ wsX90, w ∈ Ts) (hown : s.vm.findClass own = some m.cls) (I : IR g s M H locs) (hlink : Cond.fieldLink own index (TX9 24).1 (TX9 24).2.1 (TX9 24).2.2.1 ∈ Ts) (hdg : decode cc pc = .ok (.getfield index, 3)) (kk : W p l e R s m args below meth c H locs cells slots Q (F0 m (pc + 3) ls (.int (i32 (M 0 24)) :: rest))) : W p l e R s m args below meth c H locs cells slots Q (F0 m pc ls (.ref (g.2.2.2 0) :: rest)) := by
  refine g_get (ci := 9) (C := RX9) (T := TX9) (n := 31) (v := .int (i32 (M 0 24))) hx hb hts hin hown I 0 (by omega) (by omega) obR_0 rfl 24 (by decide) hlink ?_ hdg kk
  first | rfl | (rcases hz with rfl | rfl <;> rfl)
theorem rp_0_24 (hx : p.tables.exec = Jvm.exec) (hb : c.code = cc) {own : String} {index : Nat} {Ts : List Cond} (hts : ∀ w ∈ Ts, w.before args s = true) (hin : ∀ w ∈ wsX90, w ∈ Ts) (hown : s.vm.findClass own = some m.cls) (I : IR g s M H locs) (hlink : Cond.fieldLink own index (TX9 24).1 (TX9 24).2.1 (TX9 24).2.2.1 ∈ Ts) {x : Int} (hxr : inR x) (hdg : decode cc pc = .ok (.putfield index, 3)) (kk : ∀ (H1 : Heap) (locs1 : List Loc) (M1 : Mem), M1 = mset M 0 24 x → IR g s M1 H1 locs1 → W p l e R s m args below meth c H1 locs1 cells slots Q (F0 m (pc + 3) ls rest)) : W p l e R s m args below meth c H locs cells slots Q (F0 m pc ls (.int (i32 x) :: .ref (g.2.2.2 0) :: rest)) :=
  g_put (ci := 9) (C := RX9) (T := TX9) (n := 31) hx hb hts hin tyX9 tyX9_ok nmX9 hown I 0 (by omega) (by omega) obR_0 rfl 24 (by decide) hlink rfl hxr rfl (Nat.le_of_ble_eq_true rfl) (by rw [obR_0]; rfl) hdg (fun H1 locs1 I1 => kk H1 locs1 _ rfl I1)
theorem rg_0_25 (hx : p.tables.exec = Jvm.exec) (hb : c.code = cc) {own : String} {index : Nat} {Ts : List Cond} (hts : ∀ w ∈ Ts, w.before args s = true) (hin : ∀ w ∈ wsX90, w ∈ Ts) (hown : s.vm.findClass own = some m.cls) (I : IR g s M H locs) (hlink : Cond.fieldLink own index (TX9 25).1 (TX9 25).2.1 (TX9 25).2.2.1 ∈ Ts) (hdg : decode cc pc = .ok (.getfield index, 3)) (kk : W p l e R s m args below meth c H locs cells slots Q (F0 m (pc + 3) ls (.ref (g.2.2.2 20) :: rest))) : W p l e R s m args below meth c H locs cells slots Q (F0 m pc ls (.ref (g.2.2.2 0) :: rest)) := by
  refine g_get (ci := 9) (C := RX9) (T := TX9) (n := 31) (v := .ref (g.2.2.2 20)) hx hb hts hin hown I 0 (by omega) (by omega) obR_0 rfl 25 (by decide) hlink ?_ hdg kk
  first | rfl | (rcases hz with rfl | rfl <;> rfl)
theorem rg_0_26 (hx : p.tables.exec = Jvm.exec) (hb : c.code = cc) {own : String} {index : Nat} {Ts : List Cond} (hts : ∀ w ∈ Ts, w.before args s = true) (hin : ∀ w ∈ wsX90, w ∈ Ts) (hown : s.vm.findClass own = some m.cls) (I : IR g s M H locs) (hlink : Cond.fieldLink own index (TX9 26).1 (TX9 26).2.1 (TX9 26).2.2.1 ∈ Ts) (hdg : decode cc pc = .ok (.getfield index, 3)) (kk : W p l e R s m args below meth c H locs cells slots Q (F0 m (pc + 3) ls (.ref (g.2.2.2 21) :: rest))) : W p l e R s m args below meth c H locs cells slots Q (F0 m pc ls (.ref (g.2.2.2 0) :: rest)) := by
  refine g_get (ci := 9) (C := RX9) (T := TX9) (n := 31) (v := .ref (g.2.2.2 21)) hx hb hts hin hown I 0 (by omega) (by omega) obR_0 rfl 26 (by decide) hlink ?_ hdg kk
  first | rfl | (rcases hz with rfl | rfl <;> rfl)
theorem rg_0_27 (hx : p.tables.exec = Jvm.exec) (hb : c.code = cc) {own : String} {index : Nat} {Ts : List Cond} (hts : ∀ w ∈ Ts, w.before args s = true) (hin : ∀ w ∈ wsX90, w ∈ Ts) (hown : s.vm.findClass own = some m.cls) (I : IR g s M H locs) (hlink : Cond.fieldLink own index (TX9 27).1 (TX9 27).2.1 (TX9 27).2.2.1 ∈ Ts) (hdg : decode cc pc = .ok (.getfield index, 3)) (kk : W p l e R s m args below meth c H locs cells slots Q (F0 m (pc + 3) ls (.ref (g.2.2.2 22) :: rest))) : W p l e R s m args below meth c H locs cells slots Q (F0 m pc ls (.ref (g.2.2.2 0) :: rest)) := by
  refine g_get (ci := 9) (C := RX9) (T := TX9) (n := 31) (v := .ref (g.2.2.2 22)) hx hb hts hin hown I 0 (by omega) (by omega) obR_0 rfl 27 (by decide) hlink ?_ hdg kk
  first | rfl | (rcases hz with rfl | rfl <;> rfl)
theorem rg_0_28 (hx : p.tables.exec = Jvm.exec) (hb : c.code = cc) {own : String} {index : Nat} {Ts : List Cond} (hts : ∀ w ∈ Ts, w.before args s = true) (hin : ∀ w ∈ wsX90, w ∈ Ts) (hown : s.vm.findClass own = some m.cls) (I : IR g s M H locs) (hlink : Cond.fieldLink own index (TX9 28).1 (TX9 28).2.1 (TX9 28).2.2.1 ∈ Ts) (hdg : decode cc pc = .ok (.getfield index, 3)) (kk : W p l e R s m args below meth c H locs cells slots Q (F0 m (pc + 3) ls (.ref (g.2.2.2 23) :: rest))) : W p l e R s m args below meth c H locs cells slots Q (F0 m pc ls (.ref (g.2.2.2 0) :: rest)) := by
  refine g_get (ci := 9) (C := RX9) (T := TX9) (n := 31) (v := .ref (g.2.2.2 23)) hx hb hts hin hown I 0 (by omega) (by omega) obR_0 rfl 28 (by decide) hlink ?_ hdg kk
  first | rfl | (rcases hz with rfl | rfl <;> rfl)
theorem rg_0_29 (hx : p.tables.exec = Jvm.exec) (hb : c.code = cc) {own : String} {index : Nat} {Ts : List Cond} (hts : ∀ w ∈ Ts, w.before args s = true) (hin : ∀ w ∈ wsX90, w ∈ Ts) (hown : s.vm.findClass own = some m.cls) (I : IR g s M H locs) (hlink : Cond.fieldLink own index (TX9 29).1 (TX9 29).2.1 (TX9 29).2.2.1 ∈ Ts) (hdg : decode cc pc = .ok (.getfield index, 3)) (kk : W p l e R s m args below meth c H locs cells slots Q (F0 m (pc + 3) ls (.ref (g.2.2.2 24) :: rest))) : W p l e R s m args below meth c H locs cells slots Q (F0 m pc ls (.ref (g.2.2.2 0) :: rest)) := by
  refine g_get (ci := 9) (C := RX9) (T := TX9) (n := 31) (v := .ref (g.2.2.2 24)) hx hb hts hin hown I 0 (by omega) (by omega) obR_0 rfl 29 (by decide) hlink ?_ hdg kk
  first | rfl | (rcases hz with rfl | rfl <;> rfl)
theorem rg_0_30 (hx : p.tables.exec = Jvm.exec) (hb : c.code = cc) {own : String} {index : Nat} {Ts : List Cond} (hts : ∀ w ∈ Ts, w.before args s = true) (hin : ∀ w ∈ wsX90, w ∈ Ts) (hown : s.vm.findClass own = some m.cls) (I : IR g s M H locs) (hlink : Cond.fieldLink own index (TX9 30).1 (TX9 30).2.1 (TX9 30).2.2.1 ∈ Ts) (hdg : decode cc pc = .ok (.getfield index, 3)) (kk : W p l e R s m args below meth c H locs cells slots Q (F0 m (pc + 3) ls (.ref (g.2.2.2 25) :: rest))) : W p l e R s m args below meth c H locs cells slots Q (F0 m pc ls (.ref (g.2.2.2 0) :: rest)) := by
  refine g_get (ci := 9) (C := RX9) (T := TX9) (n := 31) (v := .ref (g.2.2.2 25)) hx hb hts hin hown I 0 (by omega) (by omega) obR_0 rfl 30 (by decide) hlink ?_ hdg kk
  first | rfl | (rcases hz with rfl | rfl <;> rfl)
theorem x_copy (hx : p.tables.exec = Jvm.exec) (hb : c.code = cc) (hml : c.maxLocals = ls.size) {own : String} {index : Nat} {Ts : List Cond} (hts : ∀ w ∈ Ts, w.before args s = true) (hown : s.vm.findClass own = some m.cls) (h1 : Cond.methodLink own index arraycopyName ∈ Ts) (h2 : Cond.native arraycopyName ∈ Ts) (h3 : Cond.static arraycopyName ∈ Ts) (h4 : Cond.initialized "java/lang/System" ∈ Ts) (I : IX g s M H locs) (r0 r1 : Int) (e0 : lenX r0 = 10) (e1 : lenX r1 = 10) {n : Int} (hn : 0 ≤ n ∧ n ≤ 10) (hframes : 1 ≤ R.frames) (hlocals : (rest.map fun v => v.category).sum + (nativeFrameWords "java/lang/System" "arraycopy" 5 + 11) ≤ R.locals) (hdg : decode cc pc = .ok (.invokestatic index, 3)) (kk : ∀ (H1 : Heap) (locs1 : List Loc) (M1 : Mem), M1 = mcopy M r0 r1 n → IX g s M1 H1 locs1 → W p l e R s m args below meth c H1 locs1 cells slots Q (F0 m (pc + 3) ls rest)) : W p l e R s m args below meth c H locs cells slots Q (F0 m pc ls (.int (i32 n) :: .int (i32 0) :: .ref (g.2.2.2 r1) :: .int (i32 0) :: .ref (g.2.2.2 r0) :: rest)) := by
  have l0 := lenX_in (k := r0) (by omega)
  have l1 := lenX_in (k := r1) (by omega)
  have q0 : ((r0.toNat : Nat) : Int) = r0 := Int.toNat_of_nonneg (by omega)
  have q1 : ((r1.toNat : Nat) : Int) = r1 := Int.toNat_of_nonneg (by omega)
  have hnr : inR n := ⟨by omega, by omega⟩
  have hc : (i32 n).toNatClampNeg = n.toNat := Int32.toNatClampNeg_ofInt_of_le (by omega) (by omega)
  have hz : (i32 0).toNatClampNeg = 0 := by decide
  refine va_copyi (ty := .int) (f := rowf M r0.toNat) (g := rowf M r1.toNat) hx hb hml hown (hts _ h1) (hts _ h2) (hts _ h3) (hts _ h4) I.1 I.2.1 I.2.2.1 I.2.2.2.1 r0.toNat r1.toNat 0 0 (by rw [gw_get (by omega), cellX_row l0.1, q0]) (by rw [gw_get (by omega), cellX_row l1.1, q1]) rfl rfl rfl (by decide) (by decide) (fun q => by have := (i32_lt hnr (show inR 0 by decide)).mp q; omega) (by rw [hz, hc, e0]; omega) (by rw [hz, hc, e1]; omega) (fun _ _ => rfl) hframes hlocals hdg (fun H1 locs1 hP hD hS => ?_)
  have hset : (gw 88 g.2.2.2 (cellX g) M).set r1.toNat (g.2.2.2 r1, .inl (g.2.1, (lenX r1).toNat, .inl (va_cpy (rowf M r0.toNat) (rowf M r1.toNat) (i32 0).toNatClampNeg (i32 0).toNatClampNeg (i32 n).toNatClampNeg))) = gw 88 g.2.2.2 (cellX g) (mcopy M r0 r1 n) := by
    have hs := gw_set (N := 88) (ad := g.2.2.2) (cell := cellX g) (M := M) (M' := mcopy M r0 (r1.toNat : Nat) n) (k := r1.toNat) (by omega) rfl (fun j hj => rowf_ner hj)
    rw [q1, cellX_row l1.1] at hs
    rw [← hs]
    congr 5
    refine congrArg Sum.inl ?_
    funext j
    unfold mcopy va_cpy rowf
    rw [q0, q1, msetr_s, hz, hc]
    by_cases hj : j < n.toNat
    · rw [if_pos ⟨by omega, by omega⟩, if_pos ⟨by omega, by omega⟩]
      congr 1
      simp
    · rw [if_neg (by omega), if_neg (by omega)]
  rw [hset] at hP hD
  refine kk H1 locs1 _ rfl ⟨I.1, hP, hD, hS, msetr_R I.2.2.2.2 (fun j => ?_)⟩
  split
  · exact I.2.2.2.2 _ _
  · exact I.2.2.2.2 _ _
theorem lenX_R (k : Int) : inR (lenX k) := ⟨by have := lenX_le k; omega, by have := lenX_le k; omega⟩
end MW
end
section
theorem dX0_init_0 : decode cX0_init 0 = .ok (.aload_n 0, 1) := by decide +kernel
theorem dX0_init_1 : decode cX0_init 1 = .ok (.invokespecial 3, 3) := by decide +kernel
theorem dX0_init_4 : decode cX0_init 4 = .ok (.aload_n 0, 1) := by decide +kernel
theorem dX0_init_5 : decode cX0_init 5 = .ok (.bipush 30, 2) := by decide +kernel
theorem dX0_init_7 : decode cX0_init 7 = .ok (.newarray .int, 2) := by decide +kernel
theorem dX0_init_9 : decode cX0_init 9 = .ok (.putfield 9, 3) := by decide +kernel
theorem dX0_init_12 : decode cX0_init 12 = .ok (.aload_n 0, 1) := by decide +kernel
theorem dX0_init_13 : decode cX0_init 13 = .ok (.bipush 30, 2) := by decide +kernel
theorem dX0_init_15 : decode cX0_init 15 = .ok (.newarray .int, 2) := by decide +kernel
theorem dX0_init_17 : decode cX0_init 17 = .ok (.putfield 15, 3) := by decide +kernel
theorem dX0_init_20 : decode cX0_init 20 = .ok (.aload_n 0, 1) := by decide +kernel
theorem dX0_init_21 : decode cX0_init 21 = .ok (.bipush 30, 2) := by decide +kernel
theorem dX0_init_23 : decode cX0_init 23 = .ok (.newarray .int, 2) := by decide +kernel
theorem dX0_init_25 : decode cX0_init 25 = .ok (.putfield 18, 3) := by decide +kernel
theorem dX0_init_28 : decode cX0_init 28 = .ok (.aload_n 0, 1) := by decide +kernel
theorem dX0_init_29 : decode cX0_init 29 = .ok (.bipush 30, 2) := by decide +kernel
theorem dX0_init_31 : decode cX0_init 31 = .ok (.newarray .int, 2) := by decide +kernel
theorem dX0_init_33 : decode cX0_init 33 = .ok (.putfield 21, 3) := by decide +kernel
theorem dX0_init_36 : decode cX0_init 36 = .ok (.return_, 1) := by decide +kernel
theorem dX0_keep_0 : decode cX0_keep 0 = .ok (.aload_n 0, 1) := by decide +kernel
theorem dX0_keep_1 : decode cX0_keep 1 = .ok (.getfield 24, 3) := by decide +kernel
theorem dX0_keep_4 : decode cX0_keep 4 = .ok (.aload_n 0, 1) := by decide +kernel
theorem dX0_keep_5 : decode cX0_keep 5 = .ok (.getfield 28, 3) := by decide +kernel
theorem dX0_keep_8 : decode cX0_keep 8 = .ok (.iadd, 1) := by decide +kernel
theorem dX0_keep_9 : decode cX0_keep 9 = .ok (.bipush 30, 2) := by decide +kernel
theorem dX0_keep_11 : decode cX0_keep 11 = .ok (.irem, 1) := by decide +kernel
theorem dX0_keep_12 : decode cX0_keep 12 = .ok (.istore 5, 2) := by decide +kernel
theorem dX0_keep_14 : decode cX0_keep 14 = .ok (.aload_n 0, 1) := by decide +kernel
theorem dX0_keep_15 : decode cX0_keep 15 = .ok (.getfield 9, 3) := by decide +kernel
theorem dX0_keep_18 : decode cX0_keep 18 = .ok (.iload 5, 2) := by decide +kernel
theorem dX0_keep_20 : decode cX0_keep 20 = .ok (.iload_n 1, 1) := by decide +kernel
theorem dX0_keep_21 : decode cX0_keep 21 = .ok (.iastore, 1) := by decide +kernel
theorem dX0_keep_22 : decode cX0_keep 22 = .ok (.aload_n 0, 1) := by decide +kernel
theorem dX0_keep_23 : decode cX0_keep 23 = .ok (.getfield 15, 3) := by decide +kernel
theorem dX0_keep_26 : decode cX0_keep 26 = .ok (.iload 5, 2) := by decide +kernel
theorem dX0_keep_28 : decode cX0_keep 28 = .ok (.iload_n 2, 1) := by decide +kernel
theorem dX0_keep_29 : decode cX0_keep 29 = .ok (.iastore, 1) := by decide +kernel
theorem dX0_keep_30 : decode cX0_keep 30 = .ok (.aload_n 0, 1) := by decide +kernel
theorem dX0_keep_31 : decode cX0_keep 31 = .ok (.getfield 18, 3) := by decide +kernel
theorem dX0_keep_34 : decode cX0_keep 34 = .ok (.iload 5, 2) := by decide +kernel
theorem dX0_keep_36 : decode cX0_keep 36 = .ok (.iload_n 3, 1) := by decide +kernel
theorem dX0_keep_37 : decode cX0_keep 37 = .ok (.iastore, 1) := by decide +kernel
theorem dX0_keep_38 : decode cX0_keep 38 = .ok (.aload_n 0, 1) := by decide +kernel
theorem dX0_keep_39 : decode cX0_keep 39 = .ok (.getfield 21, 3) := by decide +kernel
theorem dX0_keep_42 : decode cX0_keep 42 = .ok (.iload 5, 2) := by decide +kernel
theorem dX0_keep_44 : decode cX0_keep 44 = .ok (.iload 4, 2) := by decide +kernel
theorem dX0_keep_46 : decode cX0_keep 46 = .ok (.iastore, 1) := by decide +kernel
theorem dX0_keep_47 : decode cX0_keep 47 = .ok (.aload_n 0, 1) := by decide +kernel
theorem dX0_keep_48 : decode cX0_keep 48 = .ok (.getfield 28, 3) := by decide +kernel
theorem dX0_keep_51 : decode cX0_keep 51 = .ok (.bipush 30, 2) := by decide +kernel
theorem dX0_keep_53 : decode cX0_keep 53 = .ok (.if_icmp .ge 16, 3) := by decide +kernel
theorem dX0_keep_56 : decode cX0_keep 56 = .ok (.aload_n 0, 1) := by decide +kernel
theorem dX0_keep_57 : decode cX0_keep 57 = .ok (.dup, 1) := by decide +kernel
theorem dX0_keep_58 : decode cX0_keep 58 = .ok (.getfield 28, 3) := by decide +kernel
theorem dX0_keep_61 : decode cX0_keep 61 = .ok (.iconst 1, 1) := by decide +kernel
theorem dX0_keep_62 : decode cX0_keep 62 = .ok (.iadd, 1) := by decide +kernel
theorem dX0_keep_63 : decode cX0_keep 63 = .ok (.putfield 28, 3) := by decide +kernel
theorem dX0_keep_66 : decode cX0_keep 66 = .ok (.goto 16, 3) := by decide +kernel
theorem dX0_keep_69 : decode cX0_keep 69 = .ok (.aload_n 0, 1) := by decide +kernel
theorem dX0_keep_70 : decode cX0_keep 70 = .ok (.aload_n 0, 1) := by decide +kernel
theorem dX0_keep_71 : decode cX0_keep 71 = .ok (.getfield 24, 3) := by decide +kernel
theorem dX0_keep_74 : decode cX0_keep 74 = .ok (.iconst 1, 1) := by decide +kernel
theorem dX0_keep_75 : decode cX0_keep 75 = .ok (.iadd, 1) := by decide +kernel
theorem dX0_keep_76 : decode cX0_keep 76 = .ok (.bipush 30, 2) := by decide +kernel
theorem dX0_keep_78 : decode cX0_keep 78 = .ok (.irem, 1) := by decide +kernel
theorem dX0_keep_79 : decode cX0_keep 79 = .ok (.putfield 24, 3) := by decide +kernel
theorem dX0_keep_82 : decode cX0_keep 82 = .ok (.return_, 1) := by decide +kernel
theorem dX0_dropLatest_0 : decode cX0_dropLatest 0 = .ok (.aload_n 0, 1) := by decide +kernel
theorem dX0_dropLatest_1 : decode cX0_dropLatest 1 = .ok (.dup, 1) := by decide +kernel
theorem dX0_dropLatest_2 : decode cX0_dropLatest 2 = .ok (.getfield 28, 3) := by decide +kernel
theorem dX0_dropLatest_5 : decode cX0_dropLatest 5 = .ok (.iconst 1, 1) := by decide +kernel
theorem dX0_dropLatest_6 : decode cX0_dropLatest 6 = .ok (.isub, 1) := by decide +kernel
theorem dX0_dropLatest_7 : decode cX0_dropLatest 7 = .ok (.putfield 28, 3) := by decide +kernel
theorem dX0_dropLatest_10 : decode cX0_dropLatest 10 = .ok (.aload_n 0, 1) := by decide +kernel
theorem dX0_dropLatest_11 : decode cX0_dropLatest 11 = .ok (.getfield 24, 3) := by decide +kernel
theorem dX0_dropLatest_14 : decode cX0_dropLatest 14 = .ok (.aload_n 0, 1) := by decide +kernel
theorem dX0_dropLatest_15 : decode cX0_dropLatest 15 = .ok (.getfield 28, 3) := by decide +kernel
theorem dX0_dropLatest_18 : decode cX0_dropLatest 18 = .ok (.iadd, 1) := by decide +kernel
theorem dX0_dropLatest_19 : decode cX0_dropLatest 19 = .ok (.bipush 30, 2) := by decide +kernel
theorem dX0_dropLatest_21 : decode cX0_dropLatest 21 = .ok (.irem, 1) := by decide +kernel
theorem dX0_dropLatest_22 : decode cX0_dropLatest 22 = .ok (.ireturn, 1) := by decide +kernel
theorem dX1_init_0 : decode cX1_init 0 = .ok (.aload_n 0, 1) := by decide +kernel
theorem dX1_init_1 : decode cX1_init 1 = .ok (.invokespecial 3, 3) := by decide +kernel
theorem dX1_init_4 : decode cX1_init 4 = .ok (.aload_n 0, 1) := by decide +kernel
theorem dX1_init_5 : decode cX1_init 5 = .ok (.bipush 10, 2) := by decide +kernel
theorem dX1_init_7 : decode cX1_init 7 = .ok (.bipush 10, 2) := by decide +kernel
theorem dX1_init_9 : decode cX1_init 9 = .ok (.multianewarray 9 2, 4) := by decide +kernel
theorem dX1_init_13 : decode cX1_init 13 = .ok (.putfield 11, 3) := by decide +kernel
theorem dX1_init_16 : decode cX1_init 16 = .ok (.return_, 1) := by decide +kernel
theorem dX1_wipe_0 : decode cX1_wipe 0 = .ok (.iconst 0, 1) := by decide +kernel
theorem dX1_wipe_1 : decode cX1_wipe 1 = .ok (.istore_n 1, 1) := by decide +kernel
theorem dX1_wipe_2 : decode cX1_wipe 2 = .ok (.iload_n 1, 1) := by decide +kernel
theorem dX1_wipe_3 : decode cX1_wipe 3 = .ok (.bipush 10, 2) := by decide +kernel
theorem dX1_wipe_5 : decode cX1_wipe 5 = .ok (.if_icmp .ge 19, 3) := by decide +kernel
theorem dX1_wipe_8 : decode cX1_wipe 8 = .ok (.aload_n 0, 1) := by decide +kernel
theorem dX1_wipe_9 : decode cX1_wipe 9 = .ok (.getfield 11, 3) := by decide +kernel
theorem dX1_wipe_12 : decode cX1_wipe 12 = .ok (.iload_n 1, 1) := by decide +kernel
theorem dX1_wipe_13 : decode cX1_wipe 13 = .ok (.aaload, 1) := by decide +kernel
theorem dX1_wipe_14 : decode cX1_wipe 14 = .ok (.iconst 0, 1) := by decide +kernel
theorem dX1_wipe_15 : decode cX1_wipe 15 = .ok (.invokestatic 16, 3) := by decide +kernel
theorem dX1_wipe_18 : decode cX1_wipe 18 = .ok (.iinc 1 1, 3) := by decide +kernel
theorem dX1_wipe_21 : decode cX1_wipe 21 = .ok (.goto (-19), 3) := by decide +kernel
theorem dX1_wipe_24 : decode cX1_wipe 24 = .ok (.return_, 1) := by decide +kernel
theorem dX1_wipePlace_0 : decode cX1_wipePlace 0 = .ok (.iconst 0, 1) := by decide +kernel
theorem dX1_wipePlace_1 : decode cX1_wipePlace 1 = .ok (.istore_n 2, 1) := by decide +kernel
theorem dX1_wipePlace_2 : decode cX1_wipePlace 2 = .ok (.iload_n 2, 1) := by decide +kernel
theorem dX1_wipePlace_3 : decode cX1_wipePlace 3 = .ok (.bipush 10, 2) := by decide +kernel
theorem dX1_wipePlace_5 : decode cX1_wipePlace 5 = .ok (.if_icmp .ge 27, 3) := by decide +kernel
theorem dX1_wipePlace_8 : decode cX1_wipePlace 8 = .ok (.aload_n 0, 1) := by decide +kernel
theorem dX1_wipePlace_9 : decode cX1_wipePlace 9 = .ok (.getfield 11, 3) := by decide +kernel
theorem dX1_wipePlace_12 : decode cX1_wipePlace 12 = .ok (.iload_n 1, 1) := by decide +kernel
theorem dX1_wipePlace_13 : decode cX1_wipePlace 13 = .ok (.aaload, 1) := by decide +kernel
theorem dX1_wipePlace_14 : decode cX1_wipePlace 14 = .ok (.iload_n 2, 1) := by decide +kernel
theorem dX1_wipePlace_15 : decode cX1_wipePlace 15 = .ok (.iconst 0, 1) := by decide +kernel
theorem dX1_wipePlace_16 : decode cX1_wipePlace 16 = .ok (.iastore, 1) := by decide +kernel
theorem dX1_wipePlace_17 : decode cX1_wipePlace 17 = .ok (.aload_n 0, 1) := by decide +kernel
theorem dX1_wipePlace_18 : decode cX1_wipePlace 18 = .ok (.getfield 11, 3) := by decide +kernel
theorem dX1_wipePlace_21 : decode cX1_wipePlace 21 = .ok (.iload_n 2, 1) := by decide +kernel
theorem dX1_wipePlace_22 : decode cX1_wipePlace 22 = .ok (.aaload, 1) := by decide +kernel
theorem dX1_wipePlace_23 : decode cX1_wipePlace 23 = .ok (.iload_n 1, 1) := by decide +kernel
theorem dX1_wipePlace_24 : decode cX1_wipePlace 24 = .ok (.iconst 0, 1) := by decide +kernel
theorem dX1_wipePlace_25 : decode cX1_wipePlace 25 = .ok (.iastore, 1) := by decide +kernel
theorem dX1_wipePlace_26 : decode cX1_wipePlace 26 = .ok (.iinc 2 1, 3) := by decide +kernel
theorem dX1_wipePlace_29 : decode cX1_wipePlace 29 = .ok (.goto (-27), 3) := by decide +kernel
theorem dX1_wipePlace_32 : decode cX1_wipePlace 32 = .ok (.return_, 1) := by decide +kernel
theorem dX1_others_0 : decode cX1_others 0 = .ok (.iconst 0, 1) := by decide +kernel
theorem dX1_others_1 : decode cX1_others 1 = .ok (.istore_n 1, 1) := by decide +kernel
theorem dX1_others_2 : decode cX1_others 2 = .ok (.iconst 0, 1) := by decide +kernel
theorem dX1_others_3 : decode cX1_others 3 = .ok (.istore_n 2, 1) := by decide +kernel
theorem dX1_others_4 : decode cX1_others 4 = .ok (.iload_n 2, 1) := by decide +kernel
theorem dX1_others_5 : decode cX1_others 5 = .ok (.bipush 10, 2) := by decide +kernel
theorem dX1_others_7 : decode cX1_others 7 = .ok (.if_icmp .ge 37, 3) := by decide +kernel
theorem dX1_others_10 : decode cX1_others 10 = .ok (.iconst 0, 1) := by decide +kernel
theorem dX1_others_11 : decode cX1_others 11 = .ok (.istore_n 3, 1) := by decide +kernel
theorem dX1_others_12 : decode cX1_others 12 = .ok (.iload_n 3, 1) := by decide +kernel
theorem dX1_others_13 : decode cX1_others 13 = .ok (.bipush 10, 2) := by decide +kernel
theorem dX1_others_15 : decode cX1_others 15 = .ok (.if_icmp .ge 23, 3) := by decide +kernel
theorem dX1_others_18 : decode cX1_others 18 = .ok (.aload_n 0, 1) := by decide +kernel
theorem dX1_others_19 : decode cX1_others 19 = .ok (.getfield 11, 3) := by decide +kernel
theorem dX1_others_22 : decode cX1_others 22 = .ok (.iload_n 2, 1) := by decide +kernel
theorem dX1_others_23 : decode cX1_others 23 = .ok (.aaload, 1) := by decide +kernel
theorem dX1_others_24 : decode cX1_others 24 = .ok (.iload_n 3, 1) := by decide +kernel
theorem dX1_others_25 : decode cX1_others 25 = .ok (.iaload, 1) := by decide +kernel
theorem dX1_others_26 : decode cX1_others 26 = .ok (.ifCond .eq 6, 3) := by decide +kernel
theorem dX1_others_29 : decode cX1_others 29 = .ok (.iinc 1 1, 3) := by decide +kernel
theorem dX1_others_32 : decode cX1_others 32 = .ok (.iinc 3 1, 3) := by decide +kernel
theorem dX1_others_35 : decode cX1_others 35 = .ok (.goto (-23), 3) := by decide +kernel
theorem dX1_others_38 : decode cX1_others 38 = .ok (.iinc 2 1, 3) := by decide +kernel
theorem dX1_others_41 : decode cX1_others 41 = .ok (.goto (-37), 3) := by decide +kernel
theorem dX1_others_44 : decode cX1_others 44 = .ok (.iload_n 1, 1) := by decide +kernel
theorem dX1_others_45 : decode cX1_others 45 = .ok (.ireturn, 1) := by decide +kernel
theorem dX1_firstWrongFrom_0 : decode cX1_firstWrongFrom 0 = .ok (.iconst 0, 1) := by decide +kernel
theorem dX1_firstWrongFrom_1 : decode cX1_firstWrongFrom 1 = .ok (.istore_n 3, 1) := by decide +kernel
theorem dX1_firstWrongFrom_2 : decode cX1_firstWrongFrom 2 = .ok (.iload_n 3, 1) := by decide +kernel
theorem dX1_firstWrongFrom_3 : decode cX1_firstWrongFrom 3 = .ok (.iload_n 1, 1) := by decide +kernel
theorem dX1_firstWrongFrom_4 : decode cX1_firstWrongFrom 4 = .ok (.if_icmp .ge 51, 3) := by decide +kernel
theorem dX1_firstWrongFrom_7 : decode cX1_firstWrongFrom 7 = .ok (.iconst 0, 1) := by decide +kernel
theorem dX1_firstWrongFrom_8 : decode cX1_firstWrongFrom 8 = .ok (.istore 4, 2) := by decide +kernel
theorem dX1_firstWrongFrom_10 : decode cX1_firstWrongFrom 10 = .ok (.iconst 0, 1) := by decide +kernel
theorem dX1_firstWrongFrom_11 : decode cX1_firstWrongFrom 11 = .ok (.istore 5, 2) := by decide +kernel
theorem dX1_firstWrongFrom_13 : decode cX1_firstWrongFrom 13 = .ok (.iload 5, 2) := by decide +kernel
theorem dX1_firstWrongFrom_15 : decode cX1_firstWrongFrom 15 = .ok (.iload_n 1, 1) := by decide +kernel
theorem dX1_firstWrongFrom_16 : decode cX1_firstWrongFrom 16 = .ok (.if_icmp .ge 23, 3) := by decide +kernel
theorem dX1_firstWrongFrom_19 : decode cX1_firstWrongFrom 19 = .ok (.iload 4, 2) := by decide +kernel
theorem dX1_firstWrongFrom_21 : decode cX1_firstWrongFrom 21 = .ok (.aload_n 0, 1) := by decide +kernel
theorem dX1_firstWrongFrom_22 : decode cX1_firstWrongFrom 22 = .ok (.getfield 11, 3) := by decide +kernel
theorem dX1_firstWrongFrom_25 : decode cX1_firstWrongFrom 25 = .ok (.iload_n 3, 1) := by decide +kernel
theorem dX1_firstWrongFrom_26 : decode cX1_firstWrongFrom 26 = .ok (.aaload, 1) := by decide +kernel
theorem dX1_firstWrongFrom_27 : decode cX1_firstWrongFrom 27 = .ok (.iload 5, 2) := by decide +kernel
theorem dX1_firstWrongFrom_29 : decode cX1_firstWrongFrom 29 = .ok (.iaload, 1) := by decide +kernel
theorem dX1_firstWrongFrom_30 : decode cX1_firstWrongFrom 30 = .ok (.iadd, 1) := by decide +kernel
theorem dX1_firstWrongFrom_31 : decode cX1_firstWrongFrom 31 = .ok (.istore 4, 2) := by decide +kernel
theorem dX1_firstWrongFrom_33 : decode cX1_firstWrongFrom 33 = .ok (.iinc 5 1, 3) := by decide +kernel
theorem dX1_firstWrongFrom_36 : decode cX1_firstWrongFrom 36 = .ok (.goto (-23), 3) := by decide +kernel
theorem dX1_firstWrongFrom_39 : decode cX1_firstWrongFrom 39 = .ok (.iload 4, 2) := by decide +kernel
theorem dX1_firstWrongFrom_41 : decode cX1_firstWrongFrom 41 = .ok (.aload_n 2, 1) := by decide +kernel
theorem dX1_firstWrongFrom_42 : decode cX1_firstWrongFrom 42 = .ok (.iload_n 3, 1) := by decide +kernel
theorem dX1_firstWrongFrom_43 : decode cX1_firstWrongFrom 43 = .ok (.iaload, 1) := by decide +kernel
theorem dX1_firstWrongFrom_44 : decode cX1_firstWrongFrom 44 = .ok (.if_icmp .eq 5, 3) := by decide +kernel
theorem dX1_firstWrongFrom_47 : decode cX1_firstWrongFrom 47 = .ok (.iload_n 3, 1) := by decide +kernel
theorem dX1_firstWrongFrom_48 : decode cX1_firstWrongFrom 48 = .ok (.ireturn, 1) := by decide +kernel
theorem dX1_firstWrongFrom_49 : decode cX1_firstWrongFrom 49 = .ok (.iinc 3 1, 3) := by decide +kernel
theorem dX1_firstWrongFrom_52 : decode cX1_firstWrongFrom 52 = .ok (.goto (-50), 3) := by decide +kernel
theorem dX1_firstWrongFrom_55 : decode cX1_firstWrongFrom 55 = .ok (.iconst (-1), 1) := by decide +kernel
theorem dX1_firstWrongFrom_56 : decode cX1_firstWrongFrom 56 = .ok (.ireturn, 1) := by decide +kernel
theorem dX1_firstWrongTo_0 : decode cX1_firstWrongTo 0 = .ok (.iconst 0, 1) := by decide +kernel
theorem dX1_firstWrongTo_1 : decode cX1_firstWrongTo 1 = .ok (.istore_n 3, 1) := by decide +kernel
theorem dX1_firstWrongTo_2 : decode cX1_firstWrongTo 2 = .ok (.iload_n 3, 1) := by decide +kernel
theorem dX1_firstWrongTo_3 : decode cX1_firstWrongTo 3 = .ok (.iload_n 1, 1) := by decide +kernel
theorem dX1_firstWrongTo_4 : decode cX1_firstWrongTo 4 = .ok (.if_icmp .ge 51, 3) := by decide +kernel
theorem dX1_firstWrongTo_7 : decode cX1_firstWrongTo 7 = .ok (.iconst 0, 1) := by decide +kernel
theorem dX1_firstWrongTo_8 : decode cX1_firstWrongTo 8 = .ok (.istore 4, 2) := by decide +kernel
theorem dX1_firstWrongTo_10 : decode cX1_firstWrongTo 10 = .ok (.iconst 0, 1) := by decide +kernel
theorem dX1_firstWrongTo_11 : decode cX1_firstWrongTo 11 = .ok (.istore 5, 2) := by decide +kernel
theorem dX1_firstWrongTo_13 : decode cX1_firstWrongTo 13 = .ok (.iload 5, 2) := by decide +kernel
theorem dX1_firstWrongTo_15 : decode cX1_firstWrongTo 15 = .ok (.iload_n 1, 1) := by decide +kernel
theorem dX1_firstWrongTo_16 : decode cX1_firstWrongTo 16 = .ok (.if_icmp .ge 23, 3) := by decide +kernel
theorem dX1_firstWrongTo_19 : decode cX1_firstWrongTo 19 = .ok (.iload 4, 2) := by decide +kernel
theorem dX1_firstWrongTo_21 : decode cX1_firstWrongTo 21 = .ok (.aload_n 0, 1) := by decide +kernel
theorem dX1_firstWrongTo_22 : decode cX1_firstWrongTo 22 = .ok (.getfield 11, 3) := by decide +kernel
theorem dX1_firstWrongTo_25 : decode cX1_firstWrongTo 25 = .ok (.iload 5, 2) := by decide +kernel
theorem dX1_firstWrongTo_27 : decode cX1_firstWrongTo 27 = .ok (.aaload, 1) := by decide +kernel
theorem dX1_firstWrongTo_28 : decode cX1_firstWrongTo 28 = .ok (.iload_n 3, 1) := by decide +kernel
theorem dX1_firstWrongTo_29 : decode cX1_firstWrongTo 29 = .ok (.iaload, 1) := by decide +kernel
theorem dX1_firstWrongTo_30 : decode cX1_firstWrongTo 30 = .ok (.iadd, 1) := by decide +kernel
theorem dX1_firstWrongTo_31 : decode cX1_firstWrongTo 31 = .ok (.istore 4, 2) := by decide +kernel
theorem dX1_firstWrongTo_33 : decode cX1_firstWrongTo 33 = .ok (.iinc 5 1, 3) := by decide +kernel
theorem dX1_firstWrongTo_36 : decode cX1_firstWrongTo 36 = .ok (.goto (-23), 3) := by decide +kernel
theorem dX1_firstWrongTo_39 : decode cX1_firstWrongTo 39 = .ok (.iload 4, 2) := by decide +kernel
theorem dX1_firstWrongTo_41 : decode cX1_firstWrongTo 41 = .ok (.aload_n 2, 1) := by decide +kernel
theorem dX1_firstWrongTo_42 : decode cX1_firstWrongTo 42 = .ok (.iload_n 3, 1) := by decide +kernel
theorem dX1_firstWrongTo_43 : decode cX1_firstWrongTo 43 = .ok (.iaload, 1) := by decide +kernel
theorem dX1_firstWrongTo_44 : decode cX1_firstWrongTo 44 = .ok (.if_icmp .eq 5, 3) := by decide +kernel
theorem dX1_firstWrongTo_47 : decode cX1_firstWrongTo 47 = .ok (.iload_n 3, 1) := by decide +kernel
theorem dX1_firstWrongTo_48 : decode cX1_firstWrongTo 48 = .ok (.ireturn, 1) := by decide +kernel
theorem dX1_firstWrongTo_49 : decode cX1_firstWrongTo 49 = .ok (.iinc 3 1, 3) := by decide +kernel
theorem dX1_firstWrongTo_52 : decode cX1_firstWrongTo 52 = .ok (.goto (-50), 3) := by decide +kernel
theorem dX1_firstWrongTo_55 : decode cX1_firstWrongTo 55 = .ok (.iconst (-1), 1) := by decide +kernel
theorem dX1_firstWrongTo_56 : decode cX1_firstWrongTo 56 = .ok (.ireturn, 1) := by decide +kernel
theorem dX1_cost_0 : decode cX1_cost 0 = .ok (.iconst 0, 1) := by decide +kernel
theorem dX1_cost_1 : decode cX1_cost 1 = .ok (.istore_n 2, 1) := by decide +kernel
theorem dX1_cost_2 : decode cX1_cost 2 = .ok (.iconst 0, 1) := by decide +kernel
theorem dX1_cost_3 : decode cX1_cost 3 = .ok (.istore_n 3, 1) := by decide +kernel
theorem dX1_cost_4 : decode cX1_cost 4 = .ok (.iload_n 3, 1) := by decide +kernel
theorem dX1_cost_5 : decode cX1_cost 5 = .ok (.aload_n 1, 1) := by decide +kernel
theorem dX1_cost_6 : decode cX1_cost 6 = .ok (.getfield 22, 3) := by decide +kernel
theorem dX1_cost_9 : decode cX1_cost 9 = .ok (.if_icmp .ge 49, 3) := by decide +kernel
theorem dX1_cost_12 : decode cX1_cost 12 = .ok (.iconst 0, 1) := by decide +kernel
theorem dX1_cost_13 : decode cX1_cost 13 = .ok (.istore 4, 2) := by decide +kernel
theorem dX1_cost_15 : decode cX1_cost 15 = .ok (.iload 4, 2) := by decide +kernel
theorem dX1_cost_17 : decode cX1_cost 17 = .ok (.aload_n 1, 1) := by decide +kernel
theorem dX1_cost_18 : decode cX1_cost 18 = .ok (.getfield 22, 3) := by decide +kernel
theorem dX1_cost_21 : decode cX1_cost 21 = .ok (.if_icmp .ge 31, 3) := by decide +kernel
theorem dX1_cost_24 : decode cX1_cost 24 = .ok (.iload_n 2, 1) := by decide +kernel
theorem dX1_cost_25 : decode cX1_cost 25 = .ok (.aload_n 0, 1) := by decide +kernel
theorem dX1_cost_26 : decode cX1_cost 26 = .ok (.getfield 11, 3) := by decide +kernel
theorem dX1_cost_29 : decode cX1_cost 29 = .ok (.iload_n 3, 1) := by decide +kernel
theorem dX1_cost_30 : decode cX1_cost 30 = .ok (.aaload, 1) := by decide +kernel
theorem dX1_cost_31 : decode cX1_cost 31 = .ok (.iload 4, 2) := by decide +kernel
theorem dX1_cost_33 : decode cX1_cost 33 = .ok (.iaload, 1) := by decide +kernel
theorem dX1_cost_34 : decode cX1_cost 34 = .ok (.aload_n 1, 1) := by decide +kernel
theorem dX1_cost_35 : decode cX1_cost 35 = .ok (.getfield 28, 3) := by decide +kernel
theorem dX1_cost_38 : decode cX1_cost 38 = .ok (.iload_n 3, 1) := by decide +kernel
theorem dX1_cost_39 : decode cX1_cost 39 = .ok (.aaload, 1) := by decide +kernel
theorem dX1_cost_40 : decode cX1_cost 40 = .ok (.iload 4, 2) := by decide +kernel
theorem dX1_cost_42 : decode cX1_cost 42 = .ok (.iaload, 1) := by decide +kernel
theorem dX1_cost_43 : decode cX1_cost 43 = .ok (.imul, 1) := by decide +kernel
theorem dX1_cost_44 : decode cX1_cost 44 = .ok (.iadd, 1) := by decide +kernel
theorem dX1_cost_45 : decode cX1_cost 45 = .ok (.istore_n 2, 1) := by decide +kernel
theorem dX1_cost_46 : decode cX1_cost 46 = .ok (.iinc 4 1, 3) := by decide +kernel
theorem dX1_cost_49 : decode cX1_cost 49 = .ok (.goto (-34), 3) := by decide +kernel
theorem dX1_cost_52 : decode cX1_cost 52 = .ok (.iinc 3 1, 3) := by decide +kernel
theorem dX1_cost_55 : decode cX1_cost 55 = .ok (.goto (-51), 3) := by decide +kernel
theorem dX1_cost_58 : decode cX1_cost 58 = .ok (.iload_n 2, 1) := by decide +kernel
theorem dX1_cost_59 : decode cX1_cost 59 = .ok (.ireturn, 1) := by decide +kernel
theorem dX2_init_0 : decode cX2_init 0 = .ok (.aload_n 0, 1) := by decide +kernel
theorem dX2_init_1 : decode cX2_init 1 = .ok (.invokespecial 3, 3) := by decide +kernel
theorem dX2_init_4 : decode cX2_init 4 = .ok (.aload_n 0, 1) := by decide +kernel
theorem dX2_init_5 : decode cX2_init 5 = .ok (.bipush 8, 2) := by decide +kernel
theorem dX2_init_7 : decode cX2_init 7 = .ok (.bipush 10, 2) := by decide +kernel
theorem dX2_init_9 : decode cX2_init 9 = .ok (.multianewarray 9 2, 4) := by decide +kernel
theorem dX2_init_13 : decode cX2_init 13 = .ok (.putfield 11, 3) := by decide +kernel
theorem dX2_init_16 : decode cX2_init 16 = .ok (.return_, 1) := by decide +kernel
theorem dX2_has_0 : decode cX2_has 0 = .ok (.iload_n 1, 1) := by decide +kernel
theorem dX2_has_1 : decode cX2_has 1 = .ok (.ifCond .lt 15, 3) := by decide +kernel
theorem dX2_has_4 : decode cX2_has 4 = .ok (.iload_n 1, 1) := by decide +kernel
theorem dX2_has_5 : decode cX2_has 5 = .ok (.aload_n 0, 1) := by decide +kernel
theorem dX2_has_6 : decode cX2_has 6 = .ok (.getfield 16, 3) := by decide +kernel
theorem dX2_has_9 : decode cX2_has 9 = .ok (.if_icmp .ge 7, 3) := by decide +kernel
theorem dX2_has_12 : decode cX2_has 12 = .ok (.iconst 1, 1) := by decide +kernel
theorem dX2_has_13 : decode cX2_has 13 = .ok (.goto 4, 3) := by decide +kernel
theorem dX2_has_16 : decode cX2_has 16 = .ok (.iconst 0, 1) := by decide +kernel
theorem dX2_has_17 : decode cX2_has 17 = .ok (.ireturn, 1) := by decide +kernel
theorem dX2_total_0 : decode cX2_total 0 = .ok (.iconst 0, 1) := by decide +kernel
theorem dX2_total_1 : decode cX2_total 1 = .ok (.istore_n 2, 1) := by decide +kernel
theorem dX2_total_2 : decode cX2_total 2 = .ok (.iconst 0, 1) := by decide +kernel
theorem dX2_total_3 : decode cX2_total 3 = .ok (.istore_n 3, 1) := by decide +kernel
theorem dX2_total_4 : decode cX2_total 4 = .ok (.iload_n 3, 1) := by decide +kernel
theorem dX2_total_5 : decode cX2_total 5 = .ok (.bipush 10, 2) := by decide +kernel
theorem dX2_total_7 : decode cX2_total 7 = .ok (.if_icmp .ge 20, 3) := by decide +kernel
theorem dX2_total_10 : decode cX2_total 10 = .ok (.iload_n 2, 1) := by decide +kernel
theorem dX2_total_11 : decode cX2_total 11 = .ok (.aload_n 0, 1) := by decide +kernel
theorem dX2_total_12 : decode cX2_total 12 = .ok (.getfield 11, 3) := by decide +kernel
theorem dX2_total_15 : decode cX2_total 15 = .ok (.iload_n 1, 1) := by decide +kernel
theorem dX2_total_16 : decode cX2_total 16 = .ok (.aaload, 1) := by decide +kernel
theorem dX2_total_17 : decode cX2_total 17 = .ok (.iload_n 3, 1) := by decide +kernel
theorem dX2_total_18 : decode cX2_total 18 = .ok (.iaload, 1) := by decide +kernel
theorem dX2_total_19 : decode cX2_total 19 = .ok (.iadd, 1) := by decide +kernel
theorem dX2_total_20 : decode cX2_total 20 = .ok (.istore_n 2, 1) := by decide +kernel
theorem dX2_total_21 : decode cX2_total 21 = .ok (.iinc 3 1, 3) := by decide +kernel
theorem dX2_total_24 : decode cX2_total 24 = .ok (.goto (-20), 3) := by decide +kernel
theorem dX2_total_27 : decode cX2_total 27 = .ok (.iload_n 2, 1) := by decide +kernel
theorem dX2_total_28 : decode cX2_total 28 = .ok (.ireturn, 1) := by decide +kernel
theorem dX3_init_0 : decode cX3_init 0 = .ok (.aload_n 0, 1) := by decide +kernel
theorem dX3_init_1 : decode cX3_init 1 = .ok (.invokespecial 3, 3) := by decide +kernel
theorem dX3_init_4 : decode cX3_init 4 = .ok (.aload_n 0, 1) := by decide +kernel
theorem dX3_init_5 : decode cX3_init 5 = .ok (.bipush 30, 2) := by decide +kernel
theorem dX3_init_7 : decode cX3_init 7 = .ok (.newarray .int, 2) := by decide +kernel
theorem dX3_init_9 : decode cX3_init 9 = .ok (.putfield 9, 3) := by decide +kernel
theorem dX3_init_12 : decode cX3_init 12 = .ok (.aload_n 0, 1) := by decide +kernel
theorem dX3_init_13 : decode cX3_init 13 = .ok (.bipush 30, 2) := by decide +kernel
theorem dX3_init_15 : decode cX3_init 15 = .ok (.newarray .int, 2) := by decide +kernel
theorem dX3_init_17 : decode cX3_init 17 = .ok (.putfield 15, 3) := by decide +kernel
theorem dX3_init_20 : decode cX3_init 20 = .ok (.aload_n 0, 1) := by decide +kernel
theorem dX3_init_21 : decode cX3_init 21 = .ok (.bipush 30, 2) := by decide +kernel
theorem dX3_init_23 : decode cX3_init 23 = .ok (.newarray .int, 2) := by decide +kernel
theorem dX3_init_25 : decode cX3_init 25 = .ok (.putfield 18, 3) := by decide +kernel
theorem dX3_init_28 : decode cX3_init 28 = .ok (.aload_n 0, 1) := by decide +kernel
theorem dX3_init_29 : decode cX3_init 29 = .ok (.bipush 10, 2) := by decide +kernel
theorem dX3_init_31 : decode cX3_init 31 = .ok (.newarray .int, 2) := by decide +kernel
theorem dX3_init_33 : decode cX3_init 33 = .ok (.putfield 21, 3) := by decide +kernel
theorem dX3_init_36 : decode cX3_init 36 = .ok (.aload_n 0, 1) := by decide +kernel
theorem dX3_init_37 : decode cX3_init 37 = .ok (.bipush 10, 2) := by decide +kernel
theorem dX3_init_39 : decode cX3_init 39 = .ok (.bipush 10, 2) := by decide +kernel
theorem dX3_init_41 : decode cX3_init 41 = .ok (.multianewarray 24 2, 4) := by decide +kernel
theorem dX3_init_45 : decode cX3_init 45 = .ok (.putfield 26, 3) := by decide +kernel
theorem dX3_init_48 : decode cX3_init 48 = .ok (.aload_n 0, 1) := by decide +kernel
theorem dX3_init_49 : decode cX3_init 49 = .ok (.bipush 10, 2) := by decide +kernel
theorem dX3_init_51 : decode cX3_init 51 = .ok (.bipush 10, 2) := by decide +kernel
theorem dX3_init_53 : decode cX3_init 53 = .ok (.multianewarray 24 2, 4) := by decide +kernel
theorem dX3_init_57 : decode cX3_init 57 = .ok (.putfield 29, 3) := by decide +kernel
theorem dX3_init_60 : decode cX3_init 60 = .ok (.iconst 0, 1) := by decide +kernel
theorem dX3_init_61 : decode cX3_init 61 = .ok (.istore_n 1, 1) := by decide +kernel
theorem dX3_init_62 : decode cX3_init 62 = .ok (.iload_n 1, 1) := by decide +kernel
theorem dX3_init_63 : decode cX3_init 63 = .ok (.bipush 10, 2) := by decide +kernel
theorem dX3_init_65 : decode cX3_init 65 = .ok (.if_icmp .ge 16, 3) := by decide +kernel
theorem dX3_init_68 : decode cX3_init 68 = .ok (.aload_n 0, 1) := by decide +kernel
theorem dX3_init_69 : decode cX3_init 69 = .ok (.getfield 21, 3) := by decide +kernel
theorem dX3_init_72 : decode cX3_init 72 = .ok (.iload_n 1, 1) := by decide +kernel
theorem dX3_init_73 : decode cX3_init 73 = .ok (.iconst (-1), 1) := by decide +kernel
theorem dX3_init_74 : decode cX3_init 74 = .ok (.iastore, 1) := by decide +kernel
theorem dX3_init_75 : decode cX3_init 75 = .ok (.iinc 1 1, 3) := by decide +kernel
theorem dX3_init_78 : decode cX3_init 78 = .ok (.goto (-16), 3) := by decide +kernel
theorem dX3_init_81 : decode cX3_init 81 = .ok (.return_, 1) := by decide +kernel
theorem dX3_has_0 : decode cX3_has 0 = .ok (.iload_n 1, 1) := by decide +kernel
theorem dX3_has_1 : decode cX3_has 1 = .ok (.ifCond .lt 15, 3) := by decide +kernel
theorem dX3_has_4 : decode cX3_has 4 = .ok (.iload_n 1, 1) := by decide +kernel
theorem dX3_has_5 : decode cX3_has 5 = .ok (.aload_n 0, 1) := by decide +kernel
theorem dX3_has_6 : decode cX3_has 6 = .ok (.getfield 32, 3) := by decide +kernel
theorem dX3_has_9 : decode cX3_has 9 = .ok (.if_icmp .ge 7, 3) := by decide +kernel
theorem dX3_has_12 : decode cX3_has 12 = .ok (.iconst 1, 1) := by decide +kernel
theorem dX3_has_13 : decode cX3_has 13 = .ok (.goto 4, 3) := by decide +kernel
theorem dX3_has_16 : decode cX3_has 16 = .ok (.iconst 0, 1) := by decide +kernel
theorem dX3_has_17 : decode cX3_has 17 = .ok (.ireturn, 1) := by decide +kernel
theorem dX3_addPlace_0 : decode cX3_addPlace 0 = .ok (.aload_n 0, 1) := by decide +kernel
theorem dX3_addPlace_1 : decode cX3_addPlace 1 = .ok (.getfield 32, 3) := by decide +kernel
theorem dX3_addPlace_4 : decode cX3_addPlace 4 = .ok (.istore_n 1, 1) := by decide +kernel
theorem dX3_addPlace_5 : decode cX3_addPlace 5 = .ok (.aload_n 0, 1) := by decide +kernel
theorem dX3_addPlace_6 : decode cX3_addPlace 6 = .ok (.dup, 1) := by decide +kernel
theorem dX3_addPlace_7 : decode cX3_addPlace 7 = .ok (.getfield 32, 3) := by decide +kernel
theorem dX3_addPlace_10 : decode cX3_addPlace 10 = .ok (.iconst 1, 1) := by decide +kernel
theorem dX3_addPlace_11 : decode cX3_addPlace 11 = .ok (.iadd, 1) := by decide +kernel
theorem dX3_addPlace_12 : decode cX3_addPlace 12 = .ok (.putfield 32, 3) := by decide +kernel
theorem dX3_addPlace_15 : decode cX3_addPlace 15 = .ok (.aload_n 0, 1) := by decide +kernel
theorem dX3_addPlace_16 : decode cX3_addPlace 16 = .ok (.invokevirtual 36, 3) := by decide +kernel
theorem dX3_addPlace_19 : decode cX3_addPlace 19 = .ok (.iload_n 1, 1) := by decide +kernel
theorem dX3_addPlace_20 : decode cX3_addPlace 20 = .ok (.ireturn, 1) := by decide +kernel
theorem dX3_dropPlace_0 : decode cX3_dropPlace 0 = .ok (.aload_n 0, 1) := by decide +kernel
theorem dX3_dropPlace_1 : decode cX3_dropPlace 1 = .ok (.dup, 1) := by decide +kernel
theorem dX3_dropPlace_2 : decode cX3_dropPlace 2 = .ok (.getfield 32, 3) := by decide +kernel
theorem dX3_dropPlace_5 : decode cX3_dropPlace 5 = .ok (.iconst 1, 1) := by decide +kernel
theorem dX3_dropPlace_6 : decode cX3_dropPlace 6 = .ok (.isub, 1) := by decide +kernel
theorem dX3_dropPlace_7 : decode cX3_dropPlace 7 = .ok (.putfield 32, 3) := by decide +kernel
theorem dX3_dropPlace_10 : decode cX3_dropPlace 10 = .ok (.return_, 1) := by decide +kernel
theorem dX3_addRoad_0 : decode cX3_addRoad 0 = .ok (.aload_n 0, 1) := by decide +kernel
theorem dX3_addRoad_1 : decode cX3_addRoad 1 = .ok (.getfield 39, 3) := by decide +kernel
theorem dX3_addRoad_4 : decode cX3_addRoad 4 = .ok (.istore 4, 2) := by decide +kernel
theorem dX3_addRoad_6 : decode cX3_addRoad 6 = .ok (.aload_n 0, 1) := by decide +kernel
theorem dX3_addRoad_7 : decode cX3_addRoad 7 = .ok (.getfield 9, 3) := by decide +kernel
theorem dX3_addRoad_10 : decode cX3_addRoad 10 = .ok (.iload 4, 2) := by decide +kernel
theorem dX3_addRoad_12 : decode cX3_addRoad 12 = .ok (.iload_n 1, 1) := by decide +kernel
theorem dX3_addRoad_13 : decode cX3_addRoad 13 = .ok (.iastore, 1) := by decide +kernel
theorem dX3_addRoad_14 : decode cX3_addRoad 14 = .ok (.aload_n 0, 1) := by decide +kernel
theorem dX3_addRoad_15 : decode cX3_addRoad 15 = .ok (.getfield 15, 3) := by decide +kernel
theorem dX3_addRoad_18 : decode cX3_addRoad 18 = .ok (.iload 4, 2) := by decide +kernel
theorem dX3_addRoad_20 : decode cX3_addRoad 20 = .ok (.iload_n 2, 1) := by decide +kernel
theorem dX3_addRoad_21 : decode cX3_addRoad 21 = .ok (.iastore, 1) := by decide +kernel
theorem dX3_addRoad_22 : decode cX3_addRoad 22 = .ok (.aload_n 0, 1) := by decide +kernel
theorem dX3_addRoad_23 : decode cX3_addRoad 23 = .ok (.getfield 18, 3) := by decide +kernel
theorem dX3_addRoad_26 : decode cX3_addRoad 26 = .ok (.iload 4, 2) := by decide +kernel
theorem dX3_addRoad_28 : decode cX3_addRoad 28 = .ok (.iload_n 3, 1) := by decide +kernel
theorem dX3_addRoad_29 : decode cX3_addRoad 29 = .ok (.iastore, 1) := by decide +kernel
theorem dX3_addRoad_30 : decode cX3_addRoad 30 = .ok (.aload_n 0, 1) := by decide +kernel
theorem dX3_addRoad_31 : decode cX3_addRoad 31 = .ok (.dup, 1) := by decide +kernel
theorem dX3_addRoad_32 : decode cX3_addRoad 32 = .ok (.getfield 39, 3) := by decide +kernel
theorem dX3_addRoad_35 : decode cX3_addRoad 35 = .ok (.iconst 1, 1) := by decide +kernel
theorem dX3_addRoad_36 : decode cX3_addRoad 36 = .ok (.iadd, 1) := by decide +kernel
theorem dX3_addRoad_37 : decode cX3_addRoad 37 = .ok (.putfield 39, 3) := by decide +kernel
theorem dX3_addRoad_40 : decode cX3_addRoad 40 = .ok (.aload_n 0, 1) := by decide +kernel
theorem dX3_addRoad_41 : decode cX3_addRoad 41 = .ok (.invokevirtual 36, 3) := by decide +kernel
theorem dX3_addRoad_44 : decode cX3_addRoad 44 = .ok (.iload 4, 2) := by decide +kernel
theorem dX3_addRoad_46 : decode cX3_addRoad 46 = .ok (.ireturn, 1) := by decide +kernel
theorem dX3_dropRoad_0 : decode cX3_dropRoad 0 = .ok (.aload_n 0, 1) := by decide +kernel
theorem dX3_dropRoad_1 : decode cX3_dropRoad 1 = .ok (.dup, 1) := by decide +kernel
theorem dX3_dropRoad_2 : decode cX3_dropRoad 2 = .ok (.getfield 39, 3) := by decide +kernel
theorem dX3_dropRoad_5 : decode cX3_dropRoad 5 = .ok (.iconst 1, 1) := by decide +kernel
theorem dX3_dropRoad_6 : decode cX3_dropRoad 6 = .ok (.isub, 1) := by decide +kernel
theorem dX3_dropRoad_7 : decode cX3_dropRoad 7 = .ok (.putfield 39, 3) := by decide +kernel
theorem dX3_dropRoad_10 : decode cX3_dropRoad 10 = .ok (.aload_n 0, 1) := by decide +kernel
theorem dX3_dropRoad_11 : decode cX3_dropRoad 11 = .ok (.invokevirtual 36, 3) := by decide +kernel
theorem dX3_dropRoad_14 : decode cX3_dropRoad 14 = .ok (.return_, 1) := by decide +kernel
theorem dX3_gates_0 : decode cX3_gates 0 = .ok (.iconst 0, 1) := by decide +kernel
theorem dX3_gates_1 : decode cX3_gates 1 = .ok (.istore_n 1, 1) := by decide +kernel
theorem dX3_gates_2 : decode cX3_gates 2 = .ok (.iconst 0, 1) := by decide +kernel
theorem dX3_gates_3 : decode cX3_gates 3 = .ok (.istore_n 2, 1) := by decide +kernel
theorem dX3_gates_4 : decode cX3_gates 4 = .ok (.iload_n 2, 1) := by decide +kernel
theorem dX3_gates_5 : decode cX3_gates 5 = .ok (.aload_n 0, 1) := by decide +kernel
theorem dX3_gates_6 : decode cX3_gates 6 = .ok (.getfield 32, 3) := by decide +kernel
theorem dX3_gates_9 : decode cX3_gates 9 = .ok (.if_icmp .ge 22, 3) := by decide +kernel
theorem dX3_gates_12 : decode cX3_gates 12 = .ok (.aload_n 0, 1) := by decide +kernel
theorem dX3_gates_13 : decode cX3_gates 13 = .ok (.getfield 21, 3) := by decide +kernel
theorem dX3_gates_16 : decode cX3_gates 16 = .ok (.iload_n 2, 1) := by decide +kernel
theorem dX3_gates_17 : decode cX3_gates 17 = .ok (.iaload, 1) := by decide +kernel
theorem dX3_gates_18 : decode cX3_gates 18 = .ok (.iconst (-1), 1) := by decide +kernel
theorem dX3_gates_19 : decode cX3_gates 19 = .ok (.if_icmp .eq 6, 3) := by decide +kernel
theorem dX3_gates_22 : decode cX3_gates 22 = .ok (.iinc 1 1, 3) := by decide +kernel
theorem dX3_gates_25 : decode cX3_gates 25 = .ok (.iinc 2 1, 3) := by decide +kernel
theorem dX3_gates_28 : decode cX3_gates 28 = .ok (.goto (-24), 3) := by decide +kernel
theorem dX3_gates_31 : decode cX3_gates 31 = .ok (.iload_n 1, 1) := by decide +kernel
theorem dX3_gates_32 : decode cX3_gates 32 = .ok (.ireturn, 1) := by decide +kernel
theorem dX3_isJoined_0 : decode cX3_isJoined 0 = .ok (.iconst 0, 1) := by decide +kernel
theorem dX3_isJoined_1 : decode cX3_isJoined 1 = .ok (.istore_n 1, 1) := by decide +kernel
theorem dX3_isJoined_2 : decode cX3_isJoined 2 = .ok (.iload_n 1, 1) := by decide +kernel
theorem dX3_isJoined_3 : decode cX3_isJoined 3 = .ok (.aload_n 0, 1) := by decide +kernel
theorem dX3_isJoined_4 : decode cX3_isJoined 4 = .ok (.getfield 32, 3) := by decide +kernel
theorem dX3_isJoined_7 : decode cX3_isJoined 7 = .ok (.if_icmp .ge 24, 3) := by decide +kernel
theorem dX3_isJoined_10 : decode cX3_isJoined 10 = .ok (.aload_n 0, 1) := by decide +kernel
theorem dX3_isJoined_11 : decode cX3_isJoined 11 = .ok (.getfield 29, 3) := by decide +kernel
theorem dX3_isJoined_14 : decode cX3_isJoined 14 = .ok (.iconst 0, 1) := by decide +kernel
theorem dX3_isJoined_15 : decode cX3_isJoined 15 = .ok (.aaload, 1) := by decide +kernel
theorem dX3_isJoined_16 : decode cX3_isJoined 16 = .ok (.iload_n 1, 1) := by decide +kernel
theorem dX3_isJoined_17 : decode cX3_isJoined 17 = .ok (.iaload, 1) := by decide +kernel
theorem dX3_isJoined_18 : decode cX3_isJoined 18 = .ok (.ldc 42, 2) := by decide +kernel
theorem dX3_isJoined_20 : decode cX3_isJoined 20 = .ok (.if_icmp .ne 5, 3) := by decide +kernel
theorem dX3_isJoined_23 : decode cX3_isJoined 23 = .ok (.iconst 0, 1) := by decide +kernel
theorem dX3_isJoined_24 : decode cX3_isJoined 24 = .ok (.ireturn, 1) := by decide +kernel
theorem dX3_isJoined_25 : decode cX3_isJoined 25 = .ok (.iinc 1 1, 3) := by decide +kernel
theorem dX3_isJoined_28 : decode cX3_isJoined 28 = .ok (.goto (-26), 3) := by decide +kernel
theorem dX3_isJoined_31 : decode cX3_isJoined 31 = .ok (.iconst 1, 1) := by decide +kernel
theorem dX3_isJoined_32 : decode cX3_isJoined 32 = .ok (.ireturn, 1) := by decide +kernel
theorem dX3_placeBehind_0 : decode cX3_placeBehind 0 = .ok (.iload_n 1, 1) := by decide +kernel
theorem dX3_placeBehind_1 : decode cX3_placeBehind 1 = .ok (.iload_n 2, 1) := by decide +kernel
theorem dX3_placeBehind_2 : decode cX3_placeBehind 2 = .ok (.if_icmp .eq 16, 3) := by decide +kernel
theorem dX3_placeBehind_5 : decode cX3_placeBehind 5 = .ok (.aload_n 0, 1) := by decide +kernel
theorem dX3_placeBehind_6 : decode cX3_placeBehind 6 = .ok (.getfield 29, 3) := by decide +kernel
theorem dX3_placeBehind_9 : decode cX3_placeBehind 9 = .ok (.iload_n 1, 1) := by decide +kernel
theorem dX3_placeBehind_10 : decode cX3_placeBehind 10 = .ok (.aaload, 1) := by decide +kernel
theorem dX3_placeBehind_11 : decode cX3_placeBehind 11 = .ok (.iload_n 2, 1) := by decide +kernel
theorem dX3_placeBehind_12 : decode cX3_placeBehind 12 = .ok (.iaload, 1) := by decide +kernel
theorem dX3_placeBehind_13 : decode cX3_placeBehind 13 = .ok (.ldc 42, 2) := by decide +kernel
theorem dX3_placeBehind_15 : decode cX3_placeBehind 15 = .ok (.if_icmp .ne 5, 3) := by decide +kernel
theorem dX3_placeBehind_18 : decode cX3_placeBehind 18 = .ok (.iconst (-1), 1) := by decide +kernel
theorem dX3_placeBehind_19 : decode cX3_placeBehind 19 = .ok (.ireturn, 1) := by decide +kernel
theorem dX3_placeBehind_20 : decode cX3_placeBehind 20 = .ok (.iconst 0, 1) := by decide +kernel
theorem dX3_placeBehind_21 : decode cX3_placeBehind 21 = .ok (.istore_n 3, 1) := by decide +kernel
theorem dX3_placeBehind_22 : decode cX3_placeBehind 22 = .ok (.iload_n 3, 1) := by decide +kernel
theorem dX3_placeBehind_23 : decode cX3_placeBehind 23 = .ok (.aload_n 0, 1) := by decide +kernel
theorem dX3_placeBehind_24 : decode cX3_placeBehind 24 = .ok (.getfield 32, 3) := by decide +kernel
theorem dX3_placeBehind_27 : decode cX3_placeBehind 27 = .ok (.if_icmp .ge 39, 3) := by decide +kernel
theorem dX3_placeBehind_30 : decode cX3_placeBehind 30 = .ok (.aload_n 0, 1) := by decide +kernel
theorem dX3_placeBehind_31 : decode cX3_placeBehind 31 = .ok (.getfield 26, 3) := by decide +kernel
theorem dX3_placeBehind_34 : decode cX3_placeBehind 34 = .ok (.iload_n 1, 1) := by decide +kernel
theorem dX3_placeBehind_35 : decode cX3_placeBehind 35 = .ok (.aaload, 1) := by decide +kernel
theorem dX3_placeBehind_36 : decode cX3_placeBehind 36 = .ok (.iload_n 3, 1) := by decide +kernel
theorem dX3_placeBehind_37 : decode cX3_placeBehind 37 = .ok (.iaload, 1) := by decide +kernel
theorem dX3_placeBehind_38 : decode cX3_placeBehind 38 = .ok (.aload_n 0, 1) := by decide +kernel
theorem dX3_placeBehind_39 : decode cX3_placeBehind 39 = .ok (.getfield 29, 3) := by decide +kernel
theorem dX3_placeBehind_42 : decode cX3_placeBehind 42 = .ok (.iload_n 3, 1) := by decide +kernel
theorem dX3_placeBehind_43 : decode cX3_placeBehind 43 = .ok (.aaload, 1) := by decide +kernel
theorem dX3_placeBehind_44 : decode cX3_placeBehind 44 = .ok (.iload_n 2, 1) := by decide +kernel
theorem dX3_placeBehind_45 : decode cX3_placeBehind 45 = .ok (.iaload, 1) := by decide +kernel
theorem dX3_placeBehind_46 : decode cX3_placeBehind 46 = .ok (.iadd, 1) := by decide +kernel
theorem dX3_placeBehind_47 : decode cX3_placeBehind 47 = .ok (.aload_n 0, 1) := by decide +kernel
theorem dX3_placeBehind_48 : decode cX3_placeBehind 48 = .ok (.getfield 29, 3) := by decide +kernel
theorem dX3_placeBehind_51 : decode cX3_placeBehind 51 = .ok (.iload_n 1, 1) := by decide +kernel
theorem dX3_placeBehind_52 : decode cX3_placeBehind 52 = .ok (.aaload, 1) := by decide +kernel
theorem dX3_placeBehind_53 : decode cX3_placeBehind 53 = .ok (.iload_n 2, 1) := by decide +kernel
theorem dX3_placeBehind_54 : decode cX3_placeBehind 54 = .ok (.iaload, 1) := by decide +kernel
theorem dX3_placeBehind_55 : decode cX3_placeBehind 55 = .ok (.if_icmp .ne 5, 3) := by decide +kernel
theorem dX3_placeBehind_58 : decode cX3_placeBehind 58 = .ok (.iload_n 3, 1) := by decide +kernel
theorem dX3_placeBehind_59 : decode cX3_placeBehind 59 = .ok (.ireturn, 1) := by decide +kernel
theorem dX3_placeBehind_60 : decode cX3_placeBehind 60 = .ok (.iinc 3 1, 3) := by decide +kernel
theorem dX3_placeBehind_63 : decode cX3_placeBehind 63 = .ok (.goto (-41), 3) := by decide +kernel
theorem dX3_placeBehind_66 : decode cX3_placeBehind 66 = .ok (.iconst (-1), 1) := by decide +kernel
theorem dX3_placeBehind_67 : decode cX3_placeBehind 67 = .ok (.ireturn, 1) := by decide +kernel
theorem dX3_measure_0 : decode cX3_measure 0 = .ok (.aload_n 0, 1) := by decide +kernel
theorem dX3_measure_1 : decode cX3_measure 1 = .ok (.invokevirtual 43, 3) := by decide +kernel
theorem dX3_measure_4 : decode cX3_measure 4 = .ok (.iconst 0, 1) := by decide +kernel
theorem dX3_measure_5 : decode cX3_measure 5 = .ok (.istore_n 1, 1) := by decide +kernel
theorem dX3_measure_6 : decode cX3_measure 6 = .ok (.iload_n 1, 1) := by decide +kernel
theorem dX3_measure_7 : decode cX3_measure 7 = .ok (.aload_n 0, 1) := by decide +kernel
theorem dX3_measure_8 : decode cX3_measure 8 = .ok (.getfield 32, 3) := by decide +kernel
theorem dX3_measure_11 : decode cX3_measure 11 = .ok (.if_icmp .ge 39, 3) := by decide +kernel
theorem dX3_measure_14 : decode cX3_measure 14 = .ok (.aload_n 0, 1) := by decide +kernel
theorem dX3_measure_15 : decode cX3_measure 15 = .ok (.getfield 26, 3) := by decide +kernel
theorem dX3_measure_18 : decode cX3_measure 18 = .ok (.iload_n 1, 1) := by decide +kernel
theorem dX3_measure_19 : decode cX3_measure 19 = .ok (.aaload, 1) := by decide +kernel
theorem dX3_measure_20 : decode cX3_measure 20 = .ok (.iconst 0, 1) := by decide +kernel
theorem dX3_measure_21 : decode cX3_measure 21 = .ok (.aload_n 0, 1) := by decide +kernel
theorem dX3_measure_22 : decode cX3_measure 22 = .ok (.getfield 29, 3) := by decide +kernel
theorem dX3_measure_25 : decode cX3_measure 25 = .ok (.iload_n 1, 1) := by decide +kernel
theorem dX3_measure_26 : decode cX3_measure 26 = .ok (.aaload, 1) := by decide +kernel
theorem dX3_measure_27 : decode cX3_measure 27 = .ok (.iconst 0, 1) := by decide +kernel
theorem dX3_measure_28 : decode cX3_measure 28 = .ok (.aload_n 0, 1) := by decide +kernel
theorem dX3_measure_29 : decode cX3_measure 29 = .ok (.getfield 32, 3) := by decide +kernel
theorem dX3_measure_32 : decode cX3_measure 32 = .ok (.invokestatic 46, 3) := by decide +kernel
theorem dX3_measure_35 : decode cX3_measure 35 = .ok (.aload_n 0, 1) := by decide +kernel
theorem dX3_measure_36 : decode cX3_measure 36 = .ok (.getfield 29, 3) := by decide +kernel
theorem dX3_measure_39 : decode cX3_measure 39 = .ok (.iload_n 1, 1) := by decide +kernel
theorem dX3_measure_40 : decode cX3_measure 40 = .ok (.aaload, 1) := by decide +kernel
theorem dX3_measure_41 : decode cX3_measure 41 = .ok (.iload_n 1, 1) := by decide +kernel
theorem dX3_measure_42 : decode cX3_measure 42 = .ok (.iconst 0, 1) := by decide +kernel
theorem dX3_measure_43 : decode cX3_measure 43 = .ok (.iastore, 1) := by decide +kernel
theorem dX3_measure_44 : decode cX3_measure 44 = .ok (.iinc 1 1, 3) := by decide +kernel
theorem dX3_measure_47 : decode cX3_measure 47 = .ok (.goto (-41), 3) := by decide +kernel
theorem dX3_measure_50 : decode cX3_measure 50 = .ok (.iconst 0, 1) := by decide +kernel
theorem dX3_measure_51 : decode cX3_measure 51 = .ok (.istore_n 1, 1) := by decide +kernel
theorem dX3_measure_52 : decode cX3_measure 52 = .ok (.iload_n 1, 1) := by decide +kernel
theorem dX3_measure_53 : decode cX3_measure 53 = .ok (.aload_n 0, 1) := by decide +kernel
theorem dX3_measure_54 : decode cX3_measure 54 = .ok (.getfield 32, 3) := by decide +kernel
theorem dX3_measure_57 : decode cX3_measure 57 = .ok (.if_icmp .ge 31, 3) := by decide +kernel
theorem dX3_measure_60 : decode cX3_measure 60 = .ok (.iconst 0, 1) := by decide +kernel
theorem dX3_measure_61 : decode cX3_measure 61 = .ok (.istore_n 2, 1) := by decide +kernel
theorem dX3_measure_62 : decode cX3_measure 62 = .ok (.iload_n 2, 1) := by decide +kernel
theorem dX3_measure_63 : decode cX3_measure 63 = .ok (.aload_n 0, 1) := by decide +kernel
theorem dX3_measure_64 : decode cX3_measure 64 = .ok (.getfield 32, 3) := by decide +kernel
theorem dX3_measure_67 : decode cX3_measure 67 = .ok (.if_icmp .ge 15, 3) := by decide +kernel
theorem dX3_measure_70 : decode cX3_measure 70 = .ok (.aload_n 0, 1) := by decide +kernel
theorem dX3_measure_71 : decode cX3_measure 71 = .ok (.iload_n 2, 1) := by decide +kernel
theorem dX3_measure_72 : decode cX3_measure 72 = .ok (.iload_n 1, 1) := by decide +kernel
theorem dX3_measure_73 : decode cX3_measure 73 = .ok (.invokevirtual 52, 3) := by decide +kernel
theorem dX3_measure_76 : decode cX3_measure 76 = .ok (.iinc 2 1, 3) := by decide +kernel
theorem dX3_measure_79 : decode cX3_measure 79 = .ok (.goto (-17), 3) := by decide +kernel
theorem dX3_measure_82 : decode cX3_measure 82 = .ok (.iinc 1 1, 3) := by decide +kernel
theorem dX3_measure_85 : decode cX3_measure 85 = .ok (.goto (-33), 3) := by decide +kernel
theorem dX3_measure_88 : decode cX3_measure 88 = .ok (.return_, 1) := by decide +kernel
theorem dX3_measureRoads_0 : decode cX3_measureRoads 0 = .ok (.iconst 0, 1) := by decide +kernel
theorem dX3_measureRoads_1 : decode cX3_measureRoads 1 = .ok (.istore_n 1, 1) := by decide +kernel
theorem dX3_measureRoads_2 : decode cX3_measureRoads 2 = .ok (.iload_n 1, 1) := by decide +kernel
theorem dX3_measureRoads_3 : decode cX3_measureRoads 3 = .ok (.aload_n 0, 1) := by decide +kernel
theorem dX3_measureRoads_4 : decode cX3_measureRoads 4 = .ok (.getfield 32, 3) := by decide +kernel
theorem dX3_measureRoads_7 : decode cX3_measureRoads 7 = .ok (.if_icmp .ge 20, 3) := by decide +kernel
theorem dX3_measureRoads_10 : decode cX3_measureRoads 10 = .ok (.aload_n 0, 1) := by decide +kernel
theorem dX3_measureRoads_11 : decode cX3_measureRoads 11 = .ok (.getfield 26, 3) := by decide +kernel
theorem dX3_measureRoads_14 : decode cX3_measureRoads 14 = .ok (.iload_n 1, 1) := by decide +kernel
theorem dX3_measureRoads_15 : decode cX3_measureRoads 15 = .ok (.aaload, 1) := by decide +kernel
theorem dX3_measureRoads_16 : decode cX3_measureRoads 16 = .ok (.ldc 42, 2) := by decide +kernel
theorem dX3_measureRoads_18 : decode cX3_measureRoads 18 = .ok (.invokestatic 56, 3) := by decide +kernel
theorem dX3_measureRoads_21 : decode cX3_measureRoads 21 = .ok (.iinc 1 1, 3) := by decide +kernel
theorem dX3_measureRoads_24 : decode cX3_measureRoads 24 = .ok (.goto (-22), 3) := by decide +kernel
theorem dX3_measureRoads_27 : decode cX3_measureRoads 27 = .ok (.iconst 0, 1) := by decide +kernel
theorem dX3_measureRoads_28 : decode cX3_measureRoads 28 = .ok (.istore_n 1, 1) := by decide +kernel
theorem dX3_measureRoads_29 : decode cX3_measureRoads 29 = .ok (.iload_n 1, 1) := by decide +kernel
theorem dX3_measureRoads_30 : decode cX3_measureRoads 30 = .ok (.aload_n 0, 1) := by decide +kernel
theorem dX3_measureRoads_31 : decode cX3_measureRoads 31 = .ok (.getfield 39, 3) := by decide +kernel
theorem dX3_measureRoads_34 : decode cX3_measureRoads 34 = .ok (.if_icmp .ge 62, 3) := by decide +kernel
theorem dX3_measureRoads_37 : decode cX3_measureRoads 37 = .ok (.aload_n 0, 1) := by decide +kernel
theorem dX3_measureRoads_38 : decode cX3_measureRoads 38 = .ok (.getfield 9, 3) := by decide +kernel
theorem dX3_measureRoads_41 : decode cX3_measureRoads 41 = .ok (.iload_n 1, 1) := by decide +kernel
theorem dX3_measureRoads_42 : decode cX3_measureRoads 42 = .ok (.iaload, 1) := by decide +kernel
theorem dX3_measureRoads_43 : decode cX3_measureRoads 43 = .ok (.istore_n 2, 1) := by decide +kernel
theorem dX3_measureRoads_44 : decode cX3_measureRoads 44 = .ok (.aload_n 0, 1) := by decide +kernel
theorem dX3_measureRoads_45 : decode cX3_measureRoads 45 = .ok (.getfield 15, 3) := by decide +kernel
theorem dX3_measureRoads_48 : decode cX3_measureRoads 48 = .ok (.iload_n 1, 1) := by decide +kernel
theorem dX3_measureRoads_49 : decode cX3_measureRoads 49 = .ok (.iaload, 1) := by decide +kernel
theorem dX3_measureRoads_50 : decode cX3_measureRoads 50 = .ok (.istore_n 3, 1) := by decide +kernel
theorem dX3_measureRoads_51 : decode cX3_measureRoads 51 = .ok (.aload_n 0, 1) := by decide +kernel
theorem dX3_measureRoads_52 : decode cX3_measureRoads 52 = .ok (.getfield 26, 3) := by decide +kernel
theorem dX3_measureRoads_55 : decode cX3_measureRoads 55 = .ok (.iload_n 2, 1) := by decide +kernel
theorem dX3_measureRoads_56 : decode cX3_measureRoads 56 = .ok (.aaload, 1) := by decide +kernel
theorem dX3_measureRoads_57 : decode cX3_measureRoads 57 = .ok (.iload_n 3, 1) := by decide +kernel
theorem dX3_measureRoads_58 : decode cX3_measureRoads 58 = .ok (.iaload, 1) := by decide +kernel
theorem dX3_measureRoads_59 : decode cX3_measureRoads 59 = .ok (.aload_n 0, 1) := by decide +kernel
theorem dX3_measureRoads_60 : decode cX3_measureRoads 60 = .ok (.getfield 18, 3) := by decide +kernel
theorem dX3_measureRoads_63 : decode cX3_measureRoads 63 = .ok (.iload_n 1, 1) := by decide +kernel
theorem dX3_measureRoads_64 : decode cX3_measureRoads 64 = .ok (.iaload, 1) := by decide +kernel
theorem dX3_measureRoads_65 : decode cX3_measureRoads 65 = .ok (.invokestatic 62, 3) := by decide +kernel
theorem dX3_measureRoads_68 : decode cX3_measureRoads 68 = .ok (.istore 4, 2) := by decide +kernel
theorem dX3_measureRoads_70 : decode cX3_measureRoads 70 = .ok (.aload_n 0, 1) := by decide +kernel
theorem dX3_measureRoads_71 : decode cX3_measureRoads 71 = .ok (.getfield 26, 3) := by decide +kernel
theorem dX3_measureRoads_74 : decode cX3_measureRoads 74 = .ok (.iload_n 2, 1) := by decide +kernel
theorem dX3_measureRoads_75 : decode cX3_measureRoads 75 = .ok (.aaload, 1) := by decide +kernel
theorem dX3_measureRoads_76 : decode cX3_measureRoads 76 = .ok (.iload_n 3, 1) := by decide +kernel
theorem dX3_measureRoads_77 : decode cX3_measureRoads 77 = .ok (.iload 4, 2) := by decide +kernel
theorem dX3_measureRoads_79 : decode cX3_measureRoads 79 = .ok (.iastore, 1) := by decide +kernel
theorem dX3_measureRoads_80 : decode cX3_measureRoads 80 = .ok (.aload_n 0, 1) := by decide +kernel
theorem dX3_measureRoads_81 : decode cX3_measureRoads 81 = .ok (.getfield 26, 3) := by decide +kernel
theorem dX3_measureRoads_84 : decode cX3_measureRoads 84 = .ok (.iload_n 3, 1) := by decide +kernel
theorem dX3_measureRoads_85 : decode cX3_measureRoads 85 = .ok (.aaload, 1) := by decide +kernel
theorem dX3_measureRoads_86 : decode cX3_measureRoads 86 = .ok (.iload_n 2, 1) := by decide +kernel
theorem dX3_measureRoads_87 : decode cX3_measureRoads 87 = .ok (.iload 4, 2) := by decide +kernel
theorem dX3_measureRoads_89 : decode cX3_measureRoads 89 = .ok (.iastore, 1) := by decide +kernel
theorem dX3_measureRoads_90 : decode cX3_measureRoads 90 = .ok (.iinc 1 1, 3) := by decide +kernel
theorem dX3_measureRoads_93 : decode cX3_measureRoads 93 = .ok (.goto (-64), 3) := by decide +kernel
theorem dX3_measureRoads_96 : decode cX3_measureRoads 96 = .ok (.return_, 1) := by decide +kernel
theorem dX3_shortenBy_0 : decode cX3_shortenBy 0 = .ok (.aload_n 0, 1) := by decide +kernel
theorem dX3_shortenBy_1 : decode cX3_shortenBy 1 = .ok (.getfield 29, 3) := by decide +kernel
theorem dX3_shortenBy_4 : decode cX3_shortenBy 4 = .ok (.iload_n 1, 1) := by decide +kernel
theorem dX3_shortenBy_5 : decode cX3_shortenBy 5 = .ok (.aaload, 1) := by decide +kernel
theorem dX3_shortenBy_6 : decode cX3_shortenBy 6 = .ok (.iload_n 2, 1) := by decide +kernel
theorem dX3_shortenBy_7 : decode cX3_shortenBy 7 = .ok (.iaload, 1) := by decide +kernel
theorem dX3_shortenBy_8 : decode cX3_shortenBy 8 = .ok (.istore_n 3, 1) := by decide +kernel
theorem dX3_shortenBy_9 : decode cX3_shortenBy 9 = .ok (.iload_n 3, 1) := by decide +kernel
theorem dX3_shortenBy_10 : decode cX3_shortenBy 10 = .ok (.ldc 42, 2) := by decide +kernel
theorem dX3_shortenBy_12 : decode cX3_shortenBy 12 = .ok (.if_icmp .ne 4, 3) := by decide +kernel
theorem dX3_shortenBy_15 : decode cX3_shortenBy 15 = .ok (.return_, 1) := by decide +kernel
theorem dX3_shortenBy_16 : decode cX3_shortenBy 16 = .ok (.iconst 0, 1) := by decide +kernel
theorem dX3_shortenBy_17 : decode cX3_shortenBy 17 = .ok (.istore 4, 2) := by decide +kernel
theorem dX3_shortenBy_19 : decode cX3_shortenBy 19 = .ok (.iload 4, 2) := by decide +kernel
theorem dX3_shortenBy_21 : decode cX3_shortenBy 21 = .ok (.aload_n 0, 1) := by decide +kernel
theorem dX3_shortenBy_22 : decode cX3_shortenBy 22 = .ok (.getfield 32, 3) := by decide +kernel
theorem dX3_shortenBy_25 : decode cX3_shortenBy 25 = .ok (.if_icmp .ge 47, 3) := by decide +kernel
theorem dX3_shortenBy_28 : decode cX3_shortenBy 28 = .ok (.iload_n 3, 1) := by decide +kernel
theorem dX3_shortenBy_29 : decode cX3_shortenBy 29 = .ok (.aload_n 0, 1) := by decide +kernel
theorem dX3_shortenBy_30 : decode cX3_shortenBy 30 = .ok (.getfield 29, 3) := by decide +kernel
theorem dX3_shortenBy_33 : decode cX3_shortenBy 33 = .ok (.iload_n 2, 1) := by decide +kernel
theorem dX3_shortenBy_34 : decode cX3_shortenBy 34 = .ok (.aaload, 1) := by decide +kernel
theorem dX3_shortenBy_35 : decode cX3_shortenBy 35 = .ok (.iload 4, 2) := by decide +kernel
theorem dX3_shortenBy_37 : decode cX3_shortenBy 37 = .ok (.iaload, 1) := by decide +kernel
theorem dX3_shortenBy_38 : decode cX3_shortenBy 38 = .ok (.iadd, 1) := by decide +kernel
theorem dX3_shortenBy_39 : decode cX3_shortenBy 39 = .ok (.istore 5, 2) := by decide +kernel
theorem dX3_shortenBy_41 : decode cX3_shortenBy 41 = .ok (.iload 5, 2) := by decide +kernel
theorem dX3_shortenBy_43 : decode cX3_shortenBy 43 = .ok (.aload_n 0, 1) := by decide +kernel
theorem dX3_shortenBy_44 : decode cX3_shortenBy 44 = .ok (.getfield 29, 3) := by decide +kernel
theorem dX3_shortenBy_47 : decode cX3_shortenBy 47 = .ok (.iload_n 1, 1) := by decide +kernel
theorem dX3_shortenBy_48 : decode cX3_shortenBy 48 = .ok (.aaload, 1) := by decide +kernel
theorem dX3_shortenBy_49 : decode cX3_shortenBy 49 = .ok (.iload 4, 2) := by decide +kernel
theorem dX3_shortenBy_51 : decode cX3_shortenBy 51 = .ok (.iaload, 1) := by decide +kernel
theorem dX3_shortenBy_52 : decode cX3_shortenBy 52 = .ok (.if_icmp .ge 14, 3) := by decide +kernel
theorem dX3_shortenBy_55 : decode cX3_shortenBy 55 = .ok (.aload_n 0, 1) := by decide +kernel
theorem dX3_shortenBy_56 : decode cX3_shortenBy 56 = .ok (.getfield 29, 3) := by decide +kernel
theorem dX3_shortenBy_59 : decode cX3_shortenBy 59 = .ok (.iload_n 1, 1) := by decide +kernel
theorem dX3_shortenBy_60 : decode cX3_shortenBy 60 = .ok (.aaload, 1) := by decide +kernel
theorem dX3_shortenBy_61 : decode cX3_shortenBy 61 = .ok (.iload 4, 2) := by decide +kernel
theorem dX3_shortenBy_63 : decode cX3_shortenBy 63 = .ok (.iload 5, 2) := by decide +kernel
theorem dX3_shortenBy_65 : decode cX3_shortenBy 65 = .ok (.iastore, 1) := by decide +kernel
theorem dX3_shortenBy_66 : decode cX3_shortenBy 66 = .ok (.iinc 4 1, 3) := by decide +kernel
theorem dX3_shortenBy_69 : decode cX3_shortenBy 69 = .ok (.goto (-50), 3) := by decide +kernel
theorem dX3_shortenBy_72 : decode cX3_shortenBy 72 = .ok (.return_, 1) := by decide +kernel
theorem dX4_init_0 : decode cX4_init 0 = .ok (.aload_n 0, 1) := by decide +kernel
theorem dX4_init_1 : decode cX4_init 1 = .ok (.invokespecial 3, 3) := by decide +kernel
theorem dX4_init_4 : decode cX4_init 4 = .ok (.aload_n 0, 1) := by decide +kernel
theorem dX4_init_5 : decode cX4_init 5 = .ok (.new 9, 3) := by decide +kernel
theorem dX4_init_8 : decode cX4_init 8 = .ok (.dup, 1) := by decide +kernel
theorem dX4_init_9 : decode cX4_init 9 = .ok (.invokespecial 11, 3) := by decide +kernel
theorem dX4_init_12 : decode cX4_init 12 = .ok (.putfield 12, 3) := by decide +kernel
theorem dX4_init_15 : decode cX4_init 15 = .ok (.return_, 1) := by decide +kernel
theorem dX4_cheapest_0 : decode cX4_cheapest 0 = .ok (.aload_n 0, 1) := by decide +kernel
theorem dX4_cheapest_1 : decode cX4_cheapest 1 = .ok (.getfield 12, 3) := by decide +kernel
theorem dX4_cheapest_4 : decode cX4_cheapest 4 = .ok (.invokevirtual 18, 3) := by decide +kernel
theorem dX4_cheapest_7 : decode cX4_cheapest 7 = .ok (.aload_n 0, 1) := by decide +kernel
theorem dX4_cheapest_8 : decode cX4_cheapest 8 = .ok (.aload_n 1, 1) := by decide +kernel
theorem dX4_cheapest_9 : decode cX4_cheapest 9 = .ok (.getfield 21, 3) := by decide +kernel
theorem dX4_cheapest_12 : decode cX4_cheapest 12 = .ok (.aload_n 2, 1) := by decide +kernel
theorem dX4_cheapest_13 : decode cX4_cheapest 13 = .ok (.aload_n 3, 1) := by decide +kernel
theorem dX4_cheapest_14 : decode cX4_cheapest 14 = .ok (.invokevirtual 27, 3) := by decide +kernel
theorem dX4_cheapest_17 : decode cX4_cheapest 17 = .ok (.pop, 1) := by decide +kernel
theorem dX4_cheapest_18 : decode cX4_cheapest 18 = .ok (.iconst 0, 1) := by decide +kernel
theorem dX4_cheapest_19 : decode cX4_cheapest 19 = .ok (.istore 5, 2) := by decide +kernel
theorem dX4_cheapest_21 : decode cX4_cheapest 21 = .ok (.iload 5, 2) := by decide +kernel
theorem dX4_cheapest_23 : decode cX4_cheapest 23 = .ok (.aload_n 1, 1) := by decide +kernel
theorem dX4_cheapest_24 : decode cX4_cheapest 24 = .ok (.getfield 21, 3) := by decide +kernel
theorem dX4_cheapest_27 : decode cX4_cheapest 27 = .ok (.if_icmp .ge 72, 3) := by decide +kernel
theorem dX4_cheapest_30 : decode cX4_cheapest 30 = .ok (.iconst 0, 1) := by decide +kernel
theorem dX4_cheapest_31 : decode cX4_cheapest 31 = .ok (.istore 6, 2) := by decide +kernel
theorem dX4_cheapest_33 : decode cX4_cheapest 33 = .ok (.iload 6, 2) := by decide +kernel
theorem dX4_cheapest_35 : decode cX4_cheapest 35 = .ok (.aload_n 1, 1) := by decide +kernel
theorem dX4_cheapest_36 : decode cX4_cheapest 36 = .ok (.getfield 21, 3) := by decide +kernel
theorem dX4_cheapest_39 : decode cX4_cheapest 39 = .ok (.if_icmp .ge 54, 3) := by decide +kernel
theorem dX4_cheapest_42 : decode cX4_cheapest 42 = .ok (.aload_n 2, 1) := by decide +kernel
theorem dX4_cheapest_43 : decode cX4_cheapest 43 = .ok (.iload 5, 2) := by decide +kernel
theorem dX4_cheapest_45 : decode cX4_cheapest 45 = .ok (.iaload, 1) := by decide +kernel
theorem dX4_cheapest_46 : decode cX4_cheapest 46 = .ok (.aload_n 3, 1) := by decide +kernel
theorem dX4_cheapest_47 : decode cX4_cheapest 47 = .ok (.iload 5, 2) := by decide +kernel
theorem dX4_cheapest_49 : decode cX4_cheapest 49 = .ok (.iaload, 1) := by decide +kernel
theorem dX4_cheapest_50 : decode cX4_cheapest 50 = .ok (.if_icmp .le 37, 3) := by decide +kernel
theorem dX4_cheapest_53 : decode cX4_cheapest 53 = .ok (.aload_n 2, 1) := by decide +kernel
theorem dX4_cheapest_54 : decode cX4_cheapest 54 = .ok (.iload 6, 2) := by decide +kernel
theorem dX4_cheapest_56 : decode cX4_cheapest 56 = .ok (.iaload, 1) := by decide +kernel
theorem dX4_cheapest_57 : decode cX4_cheapest 57 = .ok (.aload_n 3, 1) := by decide +kernel
theorem dX4_cheapest_58 : decode cX4_cheapest 58 = .ok (.iload 6, 2) := by decide +kernel
theorem dX4_cheapest_60 : decode cX4_cheapest 60 = .ok (.iaload, 1) := by decide +kernel
theorem dX4_cheapest_61 : decode cX4_cheapest 61 = .ok (.if_icmp .ge 26, 3) := by decide +kernel
theorem dX4_cheapest_64 : decode cX4_cheapest 64 = .ok (.aload_n 0, 1) := by decide +kernel
theorem dX4_cheapest_65 : decode cX4_cheapest 65 = .ok (.getfield 12, 3) := by decide +kernel
theorem dX4_cheapest_68 : decode cX4_cheapest 68 = .ok (.iload 5, 2) := by decide +kernel
theorem dX4_cheapest_70 : decode cX4_cheapest 70 = .ok (.iload 6, 2) := by decide +kernel
theorem dX4_cheapest_72 : decode cX4_cheapest 72 = .ok (.ldc 31, 2) := by decide +kernel
theorem dX4_cheapest_74 : decode cX4_cheapest 74 = .ok (.aload_n 1, 1) := by decide +kernel
theorem dX4_cheapest_75 : decode cX4_cheapest 75 = .ok (.getfield 32, 3) := by decide +kernel
theorem dX4_cheapest_78 : decode cX4_cheapest 78 = .ok (.iload 5, 2) := by decide +kernel
theorem dX4_cheapest_80 : decode cX4_cheapest 80 = .ok (.aaload, 1) := by decide +kernel
theorem dX4_cheapest_81 : decode cX4_cheapest 81 = .ok (.iload 6, 2) := by decide +kernel
theorem dX4_cheapest_83 : decode cX4_cheapest 83 = .ok (.iaload, 1) := by decide +kernel
theorem dX4_cheapest_84 : decode cX4_cheapest 84 = .ok (.invokevirtual 36, 3) := by decide +kernel
theorem dX4_cheapest_87 : decode cX4_cheapest 87 = .ok (.iinc 6 1, 3) := by decide +kernel
theorem dX4_cheapest_90 : decode cX4_cheapest 90 = .ok (.goto (-57), 3) := by decide +kernel
theorem dX4_cheapest_93 : decode cX4_cheapest 93 = .ok (.iinc 5 1, 3) := by decide +kernel
theorem dX4_cheapest_96 : decode cX4_cheapest 96 = .ok (.goto (-75), 3) := by decide +kernel
theorem dX4_cheapest_99 : decode cX4_cheapest 99 = .ok (.aload_n 0, 1) := by decide +kernel
theorem dX4_cheapest_100 : decode cX4_cheapest 100 = .ok (.aload_n 1, 1) := by decide +kernel
theorem dX4_cheapest_101 : decode cX4_cheapest 101 = .ok (.getfield 21, 3) := by decide +kernel
theorem dX4_cheapest_104 : decode cX4_cheapest 104 = .ok (.aload_n 2, 1) := by decide +kernel
theorem dX4_cheapest_105 : decode cX4_cheapest 105 = .ok (.aload_n 3, 1) := by decide +kernel
theorem dX4_cheapest_106 : decode cX4_cheapest 106 = .ok (.invokevirtual 40, 3) := by decide +kernel
theorem dX4_cheapest_109 : decode cX4_cheapest 109 = .ok (.aload_n 0, 1) := by decide +kernel
theorem dX4_cheapest_110 : decode cX4_cheapest 110 = .ok (.getfield 12, 3) := by decide +kernel
theorem dX4_cheapest_113 : decode cX4_cheapest 113 = .ok (.iload 4, 2) := by decide +kernel
theorem dX4_cheapest_115 : decode cX4_cheapest 115 = .ok (.aload_n 1, 1) := by decide +kernel
theorem dX4_cheapest_116 : decode cX4_cheapest 116 = .ok (.getfield 21, 3) := by decide +kernel
theorem dX4_cheapest_119 : decode cX4_cheapest 119 = .ok (.aload_n 2, 1) := by decide +kernel
theorem dX4_cheapest_120 : decode cX4_cheapest 120 = .ok (.aload_n 3, 1) := by decide +kernel
theorem dX4_cheapest_121 : decode cX4_cheapest 121 = .ok (.invokestatic 44, 3) := by decide +kernel
theorem dX4_cheapest_124 : decode cX4_cheapest 124 = .ok (.isub, 1) := by decide +kernel
theorem dX4_cheapest_125 : decode cX4_cheapest 125 = .ok (.invokevirtual 47, 3) := by decide +kernel
theorem dX4_cheapest_128 : decode cX4_cheapest 128 = .ok (.aload_n 0, 1) := by decide +kernel
theorem dX4_cheapest_129 : decode cX4_cheapest 129 = .ok (.getfield 12, 3) := by decide +kernel
theorem dX4_cheapest_132 : decode cX4_cheapest 132 = .ok (.getfield 51, 3) := by decide +kernel
theorem dX4_cheapest_135 : decode cX4_cheapest 135 = .ok (.ireturn, 1) := by decide +kernel
theorem dX4_cheapestThroughGates_0 : decode cX4_cheapestThroughGates 0 = .ok (.aload_n 0, 1) := by decide +kernel
theorem dX4_cheapestThroughGates_1 : decode cX4_cheapestThroughGates 1 = .ok (.getfield 12, 3) := by decide +kernel
theorem dX4_cheapestThroughGates_4 : decode cX4_cheapestThroughGates 4 = .ok (.invokevirtual 18, 3) := by decide +kernel
theorem dX4_cheapestThroughGates_7 : decode cX4_cheapestThroughGates 7 = .ok (.aload_n 0, 1) := by decide +kernel
theorem dX4_cheapestThroughGates_8 : decode cX4_cheapestThroughGates 8 = .ok (.aload_n 1, 1) := by decide +kernel
theorem dX4_cheapestThroughGates_9 : decode cX4_cheapestThroughGates 9 = .ok (.getfield 21, 3) := by decide +kernel
theorem dX4_cheapestThroughGates_12 : decode cX4_cheapestThroughGates 12 = .ok (.aload_n 2, 1) := by decide +kernel
theorem dX4_cheapestThroughGates_13 : decode cX4_cheapestThroughGates 13 = .ok (.aload_n 3, 1) := by decide +kernel
theorem dX4_cheapestThroughGates_14 : decode cX4_cheapestThroughGates 14 = .ok (.invokevirtual 27, 3) := by decide +kernel
theorem dX4_cheapestThroughGates_17 : decode cX4_cheapestThroughGates 17 = .ok (.istore 4, 2) := by decide +kernel
theorem dX4_cheapestThroughGates_19 : decode cX4_cheapestThroughGates 19 = .ok (.iconst 0, 1) := by decide +kernel
theorem dX4_cheapestThroughGates_20 : decode cX4_cheapestThroughGates 20 = .ok (.istore 5, 2) := by decide +kernel
theorem dX4_cheapestThroughGates_22 : decode cX4_cheapestThroughGates 22 = .ok (.iload 5, 2) := by decide +kernel
theorem dX4_cheapestThroughGates_24 : decode cX4_cheapestThroughGates 24 = .ok (.aload_n 1, 1) := by decide +kernel
theorem dX4_cheapestThroughGates_25 : decode cX4_cheapestThroughGates 25 = .ok (.getfield 21, 3) := by decide +kernel
theorem dX4_cheapestThroughGates_28 : decode cX4_cheapestThroughGates 28 = .ok (.if_icmp .ge 105, 3) := by decide +kernel
theorem dX4_cheapestThroughGates_31 : decode cX4_cheapestThroughGates 31 = .ok (.aload_n 1, 1) := by decide +kernel
theorem dX4_cheapestThroughGates_32 : decode cX4_cheapestThroughGates 32 = .ok (.getfield 54, 3) := by decide +kernel
theorem dX4_cheapestThroughGates_35 : decode cX4_cheapestThroughGates 35 = .ok (.iload 5, 2) := by decide +kernel
theorem dX4_cheapestThroughGates_37 : decode cX4_cheapestThroughGates 37 = .ok (.iaload, 1) := by decide +kernel
theorem dX4_cheapestThroughGates_38 : decode cX4_cheapestThroughGates 38 = .ok (.istore 6, 2) := by decide +kernel
theorem dX4_cheapestThroughGates_40 : decode cX4_cheapestThroughGates 40 = .ok (.aload_n 0, 1) := by decide +kernel
theorem dX4_cheapestThroughGates_41 : decode cX4_cheapestThroughGates 41 = .ok (.getfield 12, 3) := by decide +kernel
theorem dX4_cheapestThroughGates_44 : decode cX4_cheapestThroughGates 44 = .ok (.iload 5, 2) := by decide +kernel
theorem dX4_cheapestThroughGates_46 : decode cX4_cheapestThroughGates 46 = .ok (.bipush 10, 2) := by decide +kernel
theorem dX4_cheapestThroughGates_48 : decode cX4_cheapestThroughGates 48 = .ok (.iload 5, 2) := by decide +kernel
theorem dX4_cheapestThroughGates_50 : decode cX4_cheapestThroughGates 50 = .ok (.iadd, 1) := by decide +kernel
theorem dX4_cheapestThroughGates_51 : decode cX4_cheapestThroughGates 51 = .ok (.iload 6, 2) := by decide +kernel
theorem dX4_cheapestThroughGates_53 : decode cX4_cheapestThroughGates 53 = .ok (.iconst (-1), 1) := by decide +kernel
theorem dX4_cheapestThroughGates_54 : decode cX4_cheapestThroughGates 54 = .ok (.if_icmp .ne 8, 3) := by decide +kernel
theorem dX4_cheapestThroughGates_57 : decode cX4_cheapestThroughGates 57 = .ok (.ldc 31, 2) := by decide +kernel
theorem dX4_cheapestThroughGates_59 : decode cX4_cheapestThroughGates 59 = .ok (.goto 5, 3) := by decide +kernel
theorem dX4_cheapestThroughGates_62 : decode cX4_cheapestThroughGates 62 = .ok (.iload 6, 2) := by decide +kernel
theorem dX4_cheapestThroughGates_64 : decode cX4_cheapestThroughGates 64 = .ok (.iconst 0, 1) := by decide +kernel
theorem dX4_cheapestThroughGates_65 : decode cX4_cheapestThroughGates 65 = .ok (.invokevirtual 36, 3) := by decide +kernel
theorem dX4_cheapestThroughGates_68 : decode cX4_cheapestThroughGates 68 = .ok (.iconst 0, 1) := by decide +kernel
theorem dX4_cheapestThroughGates_69 : decode cX4_cheapestThroughGates 69 = .ok (.istore 7, 2) := by decide +kernel
theorem dX4_cheapestThroughGates_71 : decode cX4_cheapestThroughGates 71 = .ok (.iload 7, 2) := by decide +kernel
theorem dX4_cheapestThroughGates_73 : decode cX4_cheapestThroughGates 73 = .ok (.aload_n 1, 1) := by decide +kernel
theorem dX4_cheapestThroughGates_74 : decode cX4_cheapestThroughGates 74 = .ok (.getfield 21, 3) := by decide +kernel
theorem dX4_cheapestThroughGates_77 : decode cX4_cheapestThroughGates 77 = .ok (.if_icmp .ge 50, 3) := by decide +kernel
theorem dX4_cheapestThroughGates_80 : decode cX4_cheapestThroughGates 80 = .ok (.aload_n 1, 1) := by decide +kernel
theorem dX4_cheapestThroughGates_81 : decode cX4_cheapestThroughGates 81 = .ok (.getfield 58, 3) := by decide +kernel
theorem dX4_cheapestThroughGates_84 : decode cX4_cheapestThroughGates 84 = .ok (.iload 5, 2) := by decide +kernel
theorem dX4_cheapestThroughGates_86 : decode cX4_cheapestThroughGates 86 = .ok (.aaload, 1) := by decide +kernel
theorem dX4_cheapestThroughGates_87 : decode cX4_cheapestThroughGates 87 = .ok (.iload 7, 2) := by decide +kernel
theorem dX4_cheapestThroughGates_89 : decode cX4_cheapestThroughGates 89 = .ok (.iaload, 1) := by decide +kernel
theorem dX4_cheapestThroughGates_90 : decode cX4_cheapestThroughGates 90 = .ok (.ldc 31, 2) := by decide +kernel
theorem dX4_cheapestThroughGates_92 : decode cX4_cheapestThroughGates 92 = .ok (.if_icmp .ge 29, 3) := by decide +kernel
theorem dX4_cheapestThroughGates_95 : decode cX4_cheapestThroughGates 95 = .ok (.aload_n 0, 1) := by decide +kernel
theorem dX4_cheapestThroughGates_96 : decode cX4_cheapestThroughGates 96 = .ok (.getfield 12, 3) := by decide +kernel
theorem dX4_cheapestThroughGates_99 : decode cX4_cheapestThroughGates 99 = .ok (.bipush 10, 2) := by decide +kernel
theorem dX4_cheapestThroughGates_101 : decode cX4_cheapestThroughGates 101 = .ok (.iload 5, 2) := by decide +kernel
theorem dX4_cheapestThroughGates_103 : decode cX4_cheapestThroughGates 103 = .ok (.iadd, 1) := by decide +kernel
theorem dX4_cheapestThroughGates_104 : decode cX4_cheapestThroughGates 104 = .ok (.iload 7, 2) := by decide +kernel
theorem dX4_cheapestThroughGates_106 : decode cX4_cheapestThroughGates 106 = .ok (.ldc 31, 2) := by decide +kernel
theorem dX4_cheapestThroughGates_108 : decode cX4_cheapestThroughGates 108 = .ok (.aload_n 1, 1) := by decide +kernel
theorem dX4_cheapestThroughGates_109 : decode cX4_cheapestThroughGates 109 = .ok (.getfield 58, 3) := by decide +kernel
theorem dX4_cheapestThroughGates_112 : decode cX4_cheapestThroughGates 112 = .ok (.iload 5, 2) := by decide +kernel
theorem dX4_cheapestThroughGates_114 : decode cX4_cheapestThroughGates 114 = .ok (.aaload, 1) := by decide +kernel
theorem dX4_cheapestThroughGates_115 : decode cX4_cheapestThroughGates 115 = .ok (.iload 7, 2) := by decide +kernel
theorem dX4_cheapestThroughGates_117 : decode cX4_cheapestThroughGates 117 = .ok (.iaload, 1) := by decide +kernel
theorem dX4_cheapestThroughGates_118 : decode cX4_cheapestThroughGates 118 = .ok (.invokevirtual 36, 3) := by decide +kernel
theorem dX4_cheapestThroughGates_121 : decode cX4_cheapestThroughGates 121 = .ok (.iinc 7 1, 3) := by decide +kernel
theorem dX4_cheapestThroughGates_124 : decode cX4_cheapestThroughGates 124 = .ok (.goto (-53), 3) := by decide +kernel
theorem dX4_cheapestThroughGates_127 : decode cX4_cheapestThroughGates 127 = .ok (.iinc 5 1, 3) := by decide +kernel
theorem dX4_cheapestThroughGates_130 : decode cX4_cheapestThroughGates 130 = .ok (.goto (-108), 3) := by decide +kernel
theorem dX4_cheapestThroughGates_133 : decode cX4_cheapestThroughGates 133 = .ok (.aload_n 0, 1) := by decide +kernel
theorem dX4_cheapestThroughGates_134 : decode cX4_cheapestThroughGates 134 = .ok (.aload_n 1, 1) := by decide +kernel
theorem dX4_cheapestThroughGates_135 : decode cX4_cheapestThroughGates 135 = .ok (.getfield 21, 3) := by decide +kernel
theorem dX4_cheapestThroughGates_138 : decode cX4_cheapestThroughGates 138 = .ok (.aload_n 2, 1) := by decide +kernel
theorem dX4_cheapestThroughGates_139 : decode cX4_cheapestThroughGates 139 = .ok (.aload_n 3, 1) := by decide +kernel
theorem dX4_cheapestThroughGates_140 : decode cX4_cheapestThroughGates 140 = .ok (.invokevirtual 40, 3) := by decide +kernel
theorem dX4_cheapestThroughGates_143 : decode cX4_cheapestThroughGates 143 = .ok (.aload_n 0, 1) := by decide +kernel
theorem dX4_cheapestThroughGates_144 : decode cX4_cheapestThroughGates 144 = .ok (.getfield 12, 3) := by decide +kernel
theorem dX4_cheapestThroughGates_147 : decode cX4_cheapestThroughGates 147 = .ok (.iload 4, 2) := by decide +kernel
theorem dX4_cheapestThroughGates_149 : decode cX4_cheapestThroughGates 149 = .ok (.invokevirtual 47, 3) := by decide +kernel
theorem dX4_cheapestThroughGates_152 : decode cX4_cheapestThroughGates 152 = .ok (.aload_n 0, 1) := by decide +kernel
theorem dX4_cheapestThroughGates_153 : decode cX4_cheapestThroughGates 153 = .ok (.getfield 12, 3) := by decide +kernel
theorem dX4_cheapestThroughGates_156 : decode cX4_cheapestThroughGates 156 = .ok (.getfield 61, 3) := by decide +kernel
theorem dX4_cheapestThroughGates_159 : decode cX4_cheapestThroughGates 159 = .ok (.iload 4, 2) := by decide +kernel
theorem dX4_cheapestThroughGates_161 : decode cX4_cheapestThroughGates 161 = .ok (.if_icmp .ne 13, 3) := by decide +kernel
theorem dX4_cheapestThroughGates_164 : decode cX4_cheapestThroughGates 164 = .ok (.aload_n 0, 1) := by decide +kernel
theorem dX4_cheapestThroughGates_165 : decode cX4_cheapestThroughGates 165 = .ok (.getfield 12, 3) := by decide +kernel
theorem dX4_cheapestThroughGates_168 : decode cX4_cheapestThroughGates 168 = .ok (.getfield 51, 3) := by decide +kernel
theorem dX4_cheapestThroughGates_171 : decode cX4_cheapestThroughGates 171 = .ok (.goto 4, 3) := by decide +kernel
theorem dX4_cheapestThroughGates_174 : decode cX4_cheapestThroughGates 174 = .ok (.iconst (-1), 1) := by decide +kernel
theorem dX4_cheapestThroughGates_175 : decode cX4_cheapestThroughGates 175 = .ok (.ireturn, 1) := by decide +kernel
theorem dX4_joinSource_0 : decode cX4_joinSource 0 = .ok (.iconst 0, 1) := by decide +kernel
theorem dX4_joinSource_1 : decode cX4_joinSource 1 = .ok (.istore 4, 2) := by decide +kernel
theorem dX4_joinSource_3 : decode cX4_joinSource 3 = .ok (.iconst 0, 1) := by decide +kernel
theorem dX4_joinSource_4 : decode cX4_joinSource 4 = .ok (.istore 5, 2) := by decide +kernel
theorem dX4_joinSource_6 : decode cX4_joinSource 6 = .ok (.iload 5, 2) := by decide +kernel
theorem dX4_joinSource_8 : decode cX4_joinSource 8 = .ok (.iload_n 1, 1) := by decide +kernel
theorem dX4_joinSource_9 : decode cX4_joinSource 9 = .ok (.if_icmp .ge 55, 3) := by decide +kernel
theorem dX4_joinSource_12 : decode cX4_joinSource 12 = .ok (.aload_n 2, 1) := by decide +kernel
theorem dX4_joinSource_13 : decode cX4_joinSource 13 = .ok (.iload 5, 2) := by decide +kernel
theorem dX4_joinSource_15 : decode cX4_joinSource 15 = .ok (.iaload, 1) := by decide +kernel
theorem dX4_joinSource_16 : decode cX4_joinSource 16 = .ok (.aload_n 3, 1) := by decide +kernel
theorem dX4_joinSource_17 : decode cX4_joinSource 17 = .ok (.iload 5, 2) := by decide +kernel
theorem dX4_joinSource_19 : decode cX4_joinSource 19 = .ok (.iaload, 1) := by decide +kernel
theorem dX4_joinSource_20 : decode cX4_joinSource 20 = .ok (.if_icmp .le 38, 3) := by decide +kernel
theorem dX4_joinSource_23 : decode cX4_joinSource 23 = .ok (.aload_n 0, 1) := by decide +kernel
theorem dX4_joinSource_24 : decode cX4_joinSource 24 = .ok (.getfield 12, 3) := by decide +kernel
theorem dX4_joinSource_27 : decode cX4_joinSource 27 = .ok (.bipush 20, 2) := by decide +kernel
theorem dX4_joinSource_29 : decode cX4_joinSource 29 = .ok (.iload 5, 2) := by decide +kernel
theorem dX4_joinSource_31 : decode cX4_joinSource 31 = .ok (.aload_n 2, 1) := by decide +kernel
theorem dX4_joinSource_32 : decode cX4_joinSource 32 = .ok (.iload 5, 2) := by decide +kernel
theorem dX4_joinSource_34 : decode cX4_joinSource 34 = .ok (.iaload, 1) := by decide +kernel
theorem dX4_joinSource_35 : decode cX4_joinSource 35 = .ok (.aload_n 3, 1) := by decide +kernel
theorem dX4_joinSource_36 : decode cX4_joinSource 36 = .ok (.iload 5, 2) := by decide +kernel
theorem dX4_joinSource_38 : decode cX4_joinSource 38 = .ok (.iaload, 1) := by decide +kernel
theorem dX4_joinSource_39 : decode cX4_joinSource 39 = .ok (.isub, 1) := by decide +kernel
theorem dX4_joinSource_40 : decode cX4_joinSource 40 = .ok (.iconst 0, 1) := by decide +kernel
theorem dX4_joinSource_41 : decode cX4_joinSource 41 = .ok (.invokevirtual 36, 3) := by decide +kernel
theorem dX4_joinSource_44 : decode cX4_joinSource 44 = .ok (.iload 4, 2) := by decide +kernel
theorem dX4_joinSource_46 : decode cX4_joinSource 46 = .ok (.aload_n 2, 1) := by decide +kernel
theorem dX4_joinSource_47 : decode cX4_joinSource 47 = .ok (.iload 5, 2) := by decide +kernel
theorem dX4_joinSource_49 : decode cX4_joinSource 49 = .ok (.iaload, 1) := by decide +kernel
theorem dX4_joinSource_50 : decode cX4_joinSource 50 = .ok (.aload_n 3, 1) := by decide +kernel
theorem dX4_joinSource_51 : decode cX4_joinSource 51 = .ok (.iload 5, 2) := by decide +kernel
theorem dX4_joinSource_53 : decode cX4_joinSource 53 = .ok (.iaload, 1) := by decide +kernel
theorem dX4_joinSource_54 : decode cX4_joinSource 54 = .ok (.isub, 1) := by decide +kernel
theorem dX4_joinSource_55 : decode cX4_joinSource 55 = .ok (.iadd, 1) := by decide +kernel
theorem dX4_joinSource_56 : decode cX4_joinSource 56 = .ok (.istore 4, 2) := by decide +kernel
theorem dX4_joinSource_58 : decode cX4_joinSource 58 = .ok (.iinc 5 1, 3) := by decide +kernel
theorem dX4_joinSource_61 : decode cX4_joinSource 61 = .ok (.goto (-55), 3) := by decide +kernel
theorem dX4_joinSource_64 : decode cX4_joinSource 64 = .ok (.iload 4, 2) := by decide +kernel
theorem dX4_joinSource_66 : decode cX4_joinSource 66 = .ok (.ireturn, 1) := by decide +kernel
theorem dX4_joinSink_0 : decode cX4_joinSink 0 = .ok (.iconst 0, 1) := by decide +kernel
theorem dX4_joinSink_1 : decode cX4_joinSink 1 = .ok (.istore 4, 2) := by decide +kernel
theorem dX4_joinSink_3 : decode cX4_joinSink 3 = .ok (.iload 4, 2) := by decide +kernel
theorem dX4_joinSink_5 : decode cX4_joinSink 5 = .ok (.iload_n 1, 1) := by decide +kernel
theorem dX4_joinSink_6 : decode cX4_joinSink 6 = .ok (.if_icmp .ge 41, 3) := by decide +kernel
theorem dX4_joinSink_9 : decode cX4_joinSink 9 = .ok (.aload_n 2, 1) := by decide +kernel
theorem dX4_joinSink_10 : decode cX4_joinSink 10 = .ok (.iload 4, 2) := by decide +kernel
theorem dX4_joinSink_12 : decode cX4_joinSink 12 = .ok (.iaload, 1) := by decide +kernel
theorem dX4_joinSink_13 : decode cX4_joinSink 13 = .ok (.aload_n 3, 1) := by decide +kernel
theorem dX4_joinSink_14 : decode cX4_joinSink 14 = .ok (.iload 4, 2) := by decide +kernel
theorem dX4_joinSink_16 : decode cX4_joinSink 16 = .ok (.iaload, 1) := by decide +kernel
theorem dX4_joinSink_17 : decode cX4_joinSink 17 = .ok (.if_icmp .ge 24, 3) := by decide +kernel
theorem dX4_joinSink_20 : decode cX4_joinSink 20 = .ok (.aload_n 0, 1) := by decide +kernel
theorem dX4_joinSink_21 : decode cX4_joinSink 21 = .ok (.getfield 12, 3) := by decide +kernel
theorem dX4_joinSink_24 : decode cX4_joinSink 24 = .ok (.iload 4, 2) := by decide +kernel
theorem dX4_joinSink_26 : decode cX4_joinSink 26 = .ok (.bipush 21, 2) := by decide +kernel
theorem dX4_joinSink_28 : decode cX4_joinSink 28 = .ok (.aload_n 3, 1) := by decide +kernel
theorem dX4_joinSink_29 : decode cX4_joinSink 29 = .ok (.iload 4, 2) := by decide +kernel
theorem dX4_joinSink_31 : decode cX4_joinSink 31 = .ok (.iaload, 1) := by decide +kernel
theorem dX4_joinSink_32 : decode cX4_joinSink 32 = .ok (.aload_n 2, 1) := by decide +kernel
theorem dX4_joinSink_33 : decode cX4_joinSink 33 = .ok (.iload 4, 2) := by decide +kernel
theorem dX4_joinSink_35 : decode cX4_joinSink 35 = .ok (.iaload, 1) := by decide +kernel
theorem dX4_joinSink_36 : decode cX4_joinSink 36 = .ok (.isub, 1) := by decide +kernel
theorem dX4_joinSink_37 : decode cX4_joinSink 37 = .ok (.iconst 0, 1) := by decide +kernel
theorem dX4_joinSink_38 : decode cX4_joinSink 38 = .ok (.invokevirtual 36, 3) := by decide +kernel
theorem dX4_joinSink_41 : decode cX4_joinSink 41 = .ok (.iinc 4 1, 3) := by decide +kernel
theorem dX4_joinSink_44 : decode cX4_joinSink 44 = .ok (.goto (-41), 3) := by decide +kernel
theorem dX4_joinSink_47 : decode cX4_joinSink 47 = .ok (.return_, 1) := by decide +kernel
theorem dX4_staying_0 : decode cX4_staying 0 = .ok (.iconst 0, 1) := by decide +kernel
theorem dX4_staying_1 : decode cX4_staying 1 = .ok (.istore_n 3, 1) := by decide +kernel
theorem dX4_staying_2 : decode cX4_staying 2 = .ok (.iconst 0, 1) := by decide +kernel
theorem dX4_staying_3 : decode cX4_staying 3 = .ok (.istore 4, 2) := by decide +kernel
theorem dX4_staying_5 : decode cX4_staying 5 = .ok (.iload 4, 2) := by decide +kernel
theorem dX4_staying_7 : decode cX4_staying 7 = .ok (.iload_n 0, 1) := by decide +kernel
theorem dX4_staying_8 : decode cX4_staying 8 = .ok (.if_icmp .ge 23, 3) := by decide +kernel
theorem dX4_staying_11 : decode cX4_staying 11 = .ok (.iload_n 3, 1) := by decide +kernel
theorem dX4_staying_12 : decode cX4_staying 12 = .ok (.aload_n 1, 1) := by decide +kernel
theorem dX4_staying_13 : decode cX4_staying 13 = .ok (.iload 4, 2) := by decide +kernel
theorem dX4_staying_15 : decode cX4_staying 15 = .ok (.iaload, 1) := by decide +kernel
theorem dX4_staying_16 : decode cX4_staying 16 = .ok (.aload_n 2, 1) := by decide +kernel
theorem dX4_staying_17 : decode cX4_staying 17 = .ok (.iload 4, 2) := by decide +kernel
theorem dX4_staying_19 : decode cX4_staying 19 = .ok (.iaload, 1) := by decide +kernel
theorem dX4_staying_20 : decode cX4_staying 20 = .ok (.invokestatic 64, 3) := by decide +kernel
theorem dX4_staying_23 : decode cX4_staying 23 = .ok (.iadd, 1) := by decide +kernel
theorem dX4_staying_24 : decode cX4_staying 24 = .ok (.istore_n 3, 1) := by decide +kernel
theorem dX4_staying_25 : decode cX4_staying 25 = .ok (.iinc 4 1, 3) := by decide +kernel
theorem dX4_staying_28 : decode cX4_staying 28 = .ok (.goto (-23), 3) := by decide +kernel
theorem dX4_staying_31 : decode cX4_staying 31 = .ok (.iload_n 3, 1) := by decide +kernel
theorem dX4_staying_32 : decode cX4_staying 32 = .ok (.ireturn, 1) := by decide +kernel
theorem dX5_init_0 : decode cX5_init 0 = .ok (.aload_n 0, 1) := by decide +kernel
theorem dX5_init_1 : decode cX5_init 1 = .ok (.invokespecial 3, 3) := by decide +kernel
theorem dX5_init_4 : decode cX5_init 4 = .ok (.aload_n 0, 1) := by decide +kernel
theorem dX5_init_5 : decode cX5_init 5 = .ok (.sipush 240, 3) := by decide +kernel
theorem dX5_init_8 : decode cX5_init 8 = .ok (.newarray .int, 2) := by decide +kernel
theorem dX5_init_10 : decode cX5_init 10 = .ok (.putfield 9, 3) := by decide +kernel
theorem dX5_init_13 : decode cX5_init 13 = .ok (.aload_n 0, 1) := by decide +kernel
theorem dX5_init_14 : decode cX5_init 14 = .ok (.sipush 240, 3) := by decide +kernel
theorem dX5_init_17 : decode cX5_init 17 = .ok (.newarray .int, 2) := by decide +kernel
theorem dX5_init_19 : decode cX5_init 19 = .ok (.putfield 15, 3) := by decide +kernel
theorem dX5_init_22 : decode cX5_init 22 = .ok (.aload_n 0, 1) := by decide +kernel
theorem dX5_init_23 : decode cX5_init 23 = .ok (.sipush 240, 3) := by decide +kernel
theorem dX5_init_26 : decode cX5_init 26 = .ok (.newarray .int, 2) := by decide +kernel
theorem dX5_init_28 : decode cX5_init 28 = .ok (.putfield 18, 3) := by decide +kernel
theorem dX5_init_31 : decode cX5_init 31 = .ok (.aload_n 0, 1) := by decide +kernel
theorem dX5_init_32 : decode cX5_init 32 = .ok (.sipush 240, 3) := by decide +kernel
theorem dX5_init_35 : decode cX5_init 35 = .ok (.newarray .int, 2) := by decide +kernel
theorem dX5_init_37 : decode cX5_init 37 = .ok (.putfield 21, 3) := by decide +kernel
theorem dX5_init_40 : decode cX5_init 40 = .ok (.aload_n 0, 1) := by decide +kernel
theorem dX5_init_41 : decode cX5_init 41 = .ok (.bipush 22, 2) := by decide +kernel
theorem dX5_init_43 : decode cX5_init 43 = .ok (.newarray .int, 2) := by decide +kernel
theorem dX5_init_45 : decode cX5_init 45 = .ok (.putfield 24, 3) := by decide +kernel
theorem dX5_init_48 : decode cX5_init 48 = .ok (.aload_n 0, 1) := by decide +kernel
theorem dX5_init_49 : decode cX5_init 49 = .ok (.bipush 22, 2) := by decide +kernel
theorem dX5_init_51 : decode cX5_init 51 = .ok (.newarray .int, 2) := by decide +kernel
theorem dX5_init_53 : decode cX5_init 53 = .ok (.putfield 27, 3) := by decide +kernel
theorem dX5_init_56 : decode cX5_init 56 = .ok (.return_, 1) := by decide +kernel
theorem dX5_empty_0 : decode cX5_empty 0 = .ok (.aload_n 0, 1) := by decide +kernel
theorem dX5_empty_1 : decode cX5_empty 1 = .ok (.iconst 0, 1) := by decide +kernel
theorem dX5_empty_2 : decode cX5_empty 2 = .ok (.putfield 30, 3) := by decide +kernel
theorem dX5_empty_5 : decode cX5_empty 5 = .ok (.aload_n 0, 1) := by decide +kernel
theorem dX5_empty_6 : decode cX5_empty 6 = .ok (.iconst 0, 1) := by decide +kernel
theorem dX5_empty_7 : decode cX5_empty 7 = .ok (.putfield 34, 3) := by decide +kernel
theorem dX5_empty_10 : decode cX5_empty 10 = .ok (.aload_n 0, 1) := by decide +kernel
theorem dX5_empty_11 : decode cX5_empty 11 = .ok (.iconst 0, 1) := by decide +kernel
theorem dX5_empty_12 : decode cX5_empty 12 = .ok (.putfield 37, 3) := by decide +kernel
theorem dX5_empty_15 : decode cX5_empty 15 = .ok (.return_, 1) := by decide +kernel
theorem dX5_join_0 : decode cX5_join 0 = .ok (.aload_n 0, 1) := by decide +kernel
theorem dX5_join_1 : decode cX5_join 1 = .ok (.getfield 30, 3) := by decide +kernel
theorem dX5_join_4 : decode cX5_join 4 = .ok (.iconst 2, 1) := by decide +kernel
theorem dX5_join_5 : decode cX5_join 5 = .ok (.iadd, 1) := by decide +kernel
theorem dX5_join_6 : decode cX5_join 6 = .ok (.sipush 240, 3) := by decide +kernel
theorem dX5_join_9 : decode cX5_join 9 = .ok (.if_icmp .le 4, 3) := by decide +kernel
theorem dX5_join_12 : decode cX5_join 12 = .ok (.return_, 1) := by decide +kernel
theorem dX5_join_13 : decode cX5_join 13 = .ok (.aload_n 0, 1) := by decide +kernel
theorem dX5_join_14 : decode cX5_join 14 = .ok (.iload_n 1, 1) := by decide +kernel
theorem dX5_join_15 : decode cX5_join 15 = .ok (.iload_n 2, 1) := by decide +kernel
theorem dX5_join_16 : decode cX5_join 16 = .ok (.iload_n 3, 1) := by decide +kernel
theorem dX5_join_17 : decode cX5_join 17 = .ok (.iload 4, 2) := by decide +kernel
theorem dX5_join_19 : decode cX5_join 19 = .ok (.invokevirtual 40, 3) := by decide +kernel
theorem dX5_join_22 : decode cX5_join 22 = .ok (.aload_n 0, 1) := by decide +kernel
theorem dX5_join_23 : decode cX5_join 23 = .ok (.iload_n 2, 1) := by decide +kernel
theorem dX5_join_24 : decode cX5_join 24 = .ok (.iload_n 1, 1) := by decide +kernel
theorem dX5_join_25 : decode cX5_join 25 = .ok (.iconst 0, 1) := by decide +kernel
theorem dX5_join_26 : decode cX5_join 26 = .ok (.iload 4, 2) := by decide +kernel
theorem dX5_join_28 : decode cX5_join 28 = .ok (.ineg, 1) := by decide +kernel
theorem dX5_join_29 : decode cX5_join 29 = .ok (.invokevirtual 40, 3) := by decide +kernel
theorem dX5_join_32 : decode cX5_join 32 = .ok (.return_, 1) := by decide +kernel
theorem dX5_push_0 : decode cX5_push 0 = .ok (.iconst 0, 1) := by decide +kernel
theorem dX5_push_1 : decode cX5_push 1 = .ok (.istore_n 2, 1) := by decide +kernel
theorem dX5_push_2 : decode cX5_push 2 = .ok (.iload_n 2, 1) := by decide +kernel
theorem dX5_push_3 : decode cX5_push 3 = .ok (.sipush 10000, 3) := by decide +kernel
theorem dX5_push_6 : decode cX5_push 6 = .ok (.if_icmp .ge 34, 3) := by decide +kernel
theorem dX5_push_9 : decode cX5_push 9 = .ok (.aload_n 0, 1) := by decide +kernel
theorem dX5_push_10 : decode cX5_push 10 = .ok (.getfield 34, 3) := by decide +kernel
theorem dX5_push_13 : decode cX5_push 13 = .ok (.iload_n 1, 1) := by decide +kernel
theorem dX5_push_14 : decode cX5_push 14 = .ok (.if_icmp .ge 26, 3) := by decide +kernel
theorem dX5_push_17 : decode cX5_push 17 = .ok (.aload_n 0, 1) := by decide +kernel
theorem dX5_push_18 : decode cX5_push 18 = .ok (.invokevirtual 44, 3) := by decide +kernel
theorem dX5_push_21 : decode cX5_push 21 = .ok (.ifCond .eq 19, 3) := by decide +kernel
theorem dX5_push_24 : decode cX5_push 24 = .ok (.aload_n 0, 1) := by decide +kernel
theorem dX5_push_25 : decode cX5_push 25 = .ok (.iload_n 1, 1) := by decide +kernel
theorem dX5_push_26 : decode cX5_push 26 = .ok (.aload_n 0, 1) := by decide +kernel
theorem dX5_push_27 : decode cX5_push 27 = .ok (.getfield 34, 3) := by decide +kernel
theorem dX5_push_30 : decode cX5_push 30 = .ok (.isub, 1) := by decide +kernel
theorem dX5_push_31 : decode cX5_push 31 = .ok (.invokevirtual 48, 3) := by decide +kernel
theorem dX5_push_34 : decode cX5_push 34 = .ok (.iinc 2 1, 3) := by decide +kernel
theorem dX5_push_37 : decode cX5_push 37 = .ok (.goto (-35), 3) := by decide +kernel
theorem dX5_push_40 : decode cX5_push 40 = .ok (.return_, 1) := by decide +kernel
theorem dX5_isReached_0 : decode cX5_isReached 0 = .ok (.aload_n 0, 1) := by decide +kernel
theorem dX5_isReached_1 : decode cX5_isReached 1 = .ok (.getfield 24, 3) := by decide +kernel
theorem dX5_isReached_4 : decode cX5_isReached 4 = .ok (.iload_n 1, 1) := by decide +kernel
theorem dX5_isReached_5 : decode cX5_isReached 5 = .ok (.iaload, 1) := by decide +kernel
theorem dX5_isReached_6 : decode cX5_isReached 6 = .ok (.ldc 52, 2) := by decide +kernel
theorem dX5_isReached_8 : decode cX5_isReached 8 = .ok (.if_icmp .ge 7, 3) := by decide +kernel
theorem dX5_isReached_11 : decode cX5_isReached 11 = .ok (.iconst 1, 1) := by decide +kernel
theorem dX5_isReached_12 : decode cX5_isReached 12 = .ok (.goto 4, 3) := by decide +kernel
theorem dX5_isReached_15 : decode cX5_isReached 15 = .ok (.iconst 0, 1) := by decide +kernel
theorem dX5_isReached_16 : decode cX5_isReached 16 = .ok (.ireturn, 1) := by decide +kernel
theorem dX5_addArc_0 : decode cX5_addArc 0 = .ok (.aload_n 0, 1) := by decide +kernel
theorem dX5_addArc_1 : decode cX5_addArc 1 = .ok (.getfield 9, 3) := by decide +kernel
theorem dX5_addArc_4 : decode cX5_addArc 4 = .ok (.aload_n 0, 1) := by decide +kernel
theorem dX5_addArc_5 : decode cX5_addArc 5 = .ok (.getfield 30, 3) := by decide +kernel
theorem dX5_addArc_8 : decode cX5_addArc 8 = .ok (.iload_n 1, 1) := by decide +kernel
theorem dX5_addArc_9 : decode cX5_addArc 9 = .ok (.iastore, 1) := by decide +kernel
theorem dX5_addArc_10 : decode cX5_addArc 10 = .ok (.aload_n 0, 1) := by decide +kernel
theorem dX5_addArc_11 : decode cX5_addArc 11 = .ok (.getfield 15, 3) := by decide +kernel
theorem dX5_addArc_14 : decode cX5_addArc 14 = .ok (.aload_n 0, 1) := by decide +kernel
theorem dX5_addArc_15 : decode cX5_addArc 15 = .ok (.getfield 30, 3) := by decide +kernel
theorem dX5_addArc_18 : decode cX5_addArc 18 = .ok (.iload_n 2, 1) := by decide +kernel
theorem dX5_addArc_19 : decode cX5_addArc 19 = .ok (.iastore, 1) := by decide +kernel
theorem dX5_addArc_20 : decode cX5_addArc 20 = .ok (.aload_n 0, 1) := by decide +kernel
theorem dX5_addArc_21 : decode cX5_addArc 21 = .ok (.getfield 18, 3) := by decide +kernel
theorem dX5_addArc_24 : decode cX5_addArc 24 = .ok (.aload_n 0, 1) := by decide +kernel
theorem dX5_addArc_25 : decode cX5_addArc 25 = .ok (.getfield 30, 3) := by decide +kernel
theorem dX5_addArc_28 : decode cX5_addArc 28 = .ok (.iload_n 3, 1) := by decide +kernel
theorem dX5_addArc_29 : decode cX5_addArc 29 = .ok (.iastore, 1) := by decide +kernel
theorem dX5_addArc_30 : decode cX5_addArc 30 = .ok (.aload_n 0, 1) := by decide +kernel
theorem dX5_addArc_31 : decode cX5_addArc 31 = .ok (.getfield 21, 3) := by decide +kernel
theorem dX5_addArc_34 : decode cX5_addArc 34 = .ok (.aload_n 0, 1) := by decide +kernel
theorem dX5_addArc_35 : decode cX5_addArc 35 = .ok (.getfield 30, 3) := by decide +kernel
theorem dX5_addArc_38 : decode cX5_addArc 38 = .ok (.iload 4, 2) := by decide +kernel
theorem dX5_addArc_40 : decode cX5_addArc 40 = .ok (.iastore, 1) := by decide +kernel
theorem dX5_addArc_41 : decode cX5_addArc 41 = .ok (.aload_n 0, 1) := by decide +kernel
theorem dX5_addArc_42 : decode cX5_addArc 42 = .ok (.dup, 1) := by decide +kernel
theorem dX5_addArc_43 : decode cX5_addArc 43 = .ok (.getfield 30, 3) := by decide +kernel
theorem dX5_addArc_46 : decode cX5_addArc 46 = .ok (.iconst 1, 1) := by decide +kernel
theorem dX5_addArc_47 : decode cX5_addArc 47 = .ok (.iadd, 1) := by decide +kernel
theorem dX5_addArc_48 : decode cX5_addArc 48 = .ok (.putfield 30, 3) := by decide +kernel
theorem dX5_addArc_51 : decode cX5_addArc 51 = .ok (.return_, 1) := by decide +kernel
theorem dX5_search_0 : decode cX5_search 0 = .ok (.aload_n 0, 1) := by decide +kernel
theorem dX5_search_1 : decode cX5_search 1 = .ok (.getfield 24, 3) := by decide +kernel
theorem dX5_search_4 : decode cX5_search 4 = .ok (.ldc 52, 2) := by decide +kernel
theorem dX5_search_6 : decode cX5_search 6 = .ok (.invokestatic 53, 3) := by decide +kernel
theorem dX5_search_9 : decode cX5_search 9 = .ok (.aload_n 0, 1) := by decide +kernel
theorem dX5_search_10 : decode cX5_search 10 = .ok (.getfield 27, 3) := by decide +kernel
theorem dX5_search_13 : decode cX5_search 13 = .ok (.iconst (-1), 1) := by decide +kernel
theorem dX5_search_14 : decode cX5_search 14 = .ok (.invokestatic 53, 3) := by decide +kernel
theorem dX5_search_17 : decode cX5_search 17 = .ok (.aload_n 0, 1) := by decide +kernel
theorem dX5_search_18 : decode cX5_search 18 = .ok (.getfield 24, 3) := by decide +kernel
theorem dX5_search_21 : decode cX5_search 21 = .ok (.bipush 20, 2) := by decide +kernel
theorem dX5_search_23 : decode cX5_search 23 = .ok (.iconst 0, 1) := by decide +kernel
theorem dX5_search_24 : decode cX5_search 24 = .ok (.iastore, 1) := by decide +kernel
theorem dX5_search_25 : decode cX5_search 25 = .ok (.iconst 0, 1) := by decide +kernel
theorem dX5_search_26 : decode cX5_search 26 = .ok (.istore_n 1, 1) := by decide +kernel
theorem dX5_search_27 : decode cX5_search 27 = .ok (.iload_n 1, 1) := by decide +kernel
theorem dX5_search_28 : decode cX5_search 28 = .ok (.bipush 22, 2) := by decide +kernel
theorem dX5_search_30 : decode cX5_search 30 = .ok (.if_icmp .ge 19, 3) := by decide +kernel
theorem dX5_search_33 : decode cX5_search 33 = .ok (.aload_n 0, 1) := by decide +kernel
theorem dX5_search_34 : decode cX5_search 34 = .ok (.invokevirtual 59, 3) := by decide +kernel
theorem dX5_search_37 : decode cX5_search 37 = .ok (.ifCond .ne 6, 3) := by decide +kernel
theorem dX5_search_40 : decode cX5_search 40 = .ok (.goto 9, 3) := by decide +kernel
theorem dX5_search_43 : decode cX5_search 43 = .ok (.iinc 1 1, 3) := by decide +kernel
theorem dX5_search_46 : decode cX5_search 46 = .ok (.goto (-19), 3) := by decide +kernel
theorem dX5_search_49 : decode cX5_search 49 = .ok (.aload_n 0, 1) := by decide +kernel
theorem dX5_search_50 : decode cX5_search 50 = .ok (.bipush 21, 2) := by decide +kernel
theorem dX5_search_52 : decode cX5_search 52 = .ok (.invokevirtual 62, 3) := by decide +kernel
theorem dX5_search_55 : decode cX5_search 55 = .ok (.ireturn, 1) := by decide +kernel
theorem dX5_relax_0 : decode cX5_relax 0 = .ok (.iconst 0, 1) := by decide +kernel
theorem dX5_relax_1 : decode cX5_relax 1 = .ok (.istore_n 1, 1) := by decide +kernel
theorem dX5_relax_2 : decode cX5_relax 2 = .ok (.iconst 0, 1) := by decide +kernel
theorem dX5_relax_3 : decode cX5_relax 3 = .ok (.istore_n 2, 1) := by decide +kernel
theorem dX5_relax_4 : decode cX5_relax 4 = .ok (.iload_n 2, 1) := by decide +kernel
theorem dX5_relax_5 : decode cX5_relax 5 = .ok (.aload_n 0, 1) := by decide +kernel
theorem dX5_relax_6 : decode cX5_relax 6 = .ok (.getfield 30, 3) := by decide +kernel
theorem dX5_relax_9 : decode cX5_relax 9 = .ok (.if_icmp .ge 91, 3) := by decide +kernel
theorem dX5_relax_12 : decode cX5_relax 12 = .ok (.aload_n 0, 1) := by decide +kernel
theorem dX5_relax_13 : decode cX5_relax 13 = .ok (.getfield 24, 3) := by decide +kernel
theorem dX5_relax_16 : decode cX5_relax 16 = .ok (.aload_n 0, 1) := by decide +kernel
theorem dX5_relax_17 : decode cX5_relax 17 = .ok (.getfield 9, 3) := by decide +kernel
theorem dX5_relax_20 : decode cX5_relax 20 = .ok (.iload_n 2, 1) := by decide +kernel
theorem dX5_relax_21 : decode cX5_relax 21 = .ok (.iaload, 1) := by decide +kernel
theorem dX5_relax_22 : decode cX5_relax 22 = .ok (.iaload, 1) := by decide +kernel
theorem dX5_relax_23 : decode cX5_relax 23 = .ok (.istore_n 3, 1) := by decide +kernel
theorem dX5_relax_24 : decode cX5_relax 24 = .ok (.aload_n 0, 1) := by decide +kernel
theorem dX5_relax_25 : decode cX5_relax 25 = .ok (.getfield 18, 3) := by decide +kernel
theorem dX5_relax_28 : decode cX5_relax 28 = .ok (.iload_n 2, 1) := by decide +kernel
theorem dX5_relax_29 : decode cX5_relax 29 = .ok (.iaload, 1) := by decide +kernel
theorem dX5_relax_30 : decode cX5_relax 30 = .ok (.ifCond .le 64, 3) := by decide +kernel
theorem dX5_relax_33 : decode cX5_relax 33 = .ok (.iload_n 3, 1) := by decide +kernel
theorem dX5_relax_34 : decode cX5_relax 34 = .ok (.ldc 52, 2) := by decide +kernel
theorem dX5_relax_36 : decode cX5_relax 36 = .ok (.if_icmp .ge 58, 3) := by decide +kernel
theorem dX5_relax_39 : decode cX5_relax 39 = .ok (.iload_n 3, 1) := by decide +kernel
theorem dX5_relax_40 : decode cX5_relax 40 = .ok (.aload_n 0, 1) := by decide +kernel
theorem dX5_relax_41 : decode cX5_relax 41 = .ok (.getfield 21, 3) := by decide +kernel
theorem dX5_relax_44 : decode cX5_relax 44 = .ok (.iload_n 2, 1) := by decide +kernel
theorem dX5_relax_45 : decode cX5_relax 45 = .ok (.iaload, 1) := by decide +kernel
theorem dX5_relax_46 : decode cX5_relax 46 = .ok (.iadd, 1) := by decide +kernel
theorem dX5_relax_47 : decode cX5_relax 47 = .ok (.aload_n 0, 1) := by decide +kernel
theorem dX5_relax_48 : decode cX5_relax 48 = .ok (.getfield 24, 3) := by decide +kernel
theorem dX5_relax_51 : decode cX5_relax 51 = .ok (.aload_n 0, 1) := by decide +kernel
theorem dX5_relax_52 : decode cX5_relax 52 = .ok (.getfield 15, 3) := by decide +kernel
theorem dX5_relax_55 : decode cX5_relax 55 = .ok (.iload_n 2, 1) := by decide +kernel
theorem dX5_relax_56 : decode cX5_relax 56 = .ok (.iaload, 1) := by decide +kernel
theorem dX5_relax_57 : decode cX5_relax 57 = .ok (.iaload, 1) := by decide +kernel
theorem dX5_relax_58 : decode cX5_relax 58 = .ok (.if_icmp .ge 36, 3) := by decide +kernel
theorem dX5_relax_61 : decode cX5_relax 61 = .ok (.aload_n 0, 1) := by decide +kernel
theorem dX5_relax_62 : decode cX5_relax 62 = .ok (.getfield 24, 3) := by decide +kernel
theorem dX5_relax_65 : decode cX5_relax 65 = .ok (.aload_n 0, 1) := by decide +kernel
theorem dX5_relax_66 : decode cX5_relax 66 = .ok (.getfield 15, 3) := by decide +kernel
theorem dX5_relax_69 : decode cX5_relax 69 = .ok (.iload_n 2, 1) := by decide +kernel
theorem dX5_relax_70 : decode cX5_relax 70 = .ok (.iaload, 1) := by decide +kernel
theorem dX5_relax_71 : decode cX5_relax 71 = .ok (.iload_n 3, 1) := by decide +kernel
theorem dX5_relax_72 : decode cX5_relax 72 = .ok (.aload_n 0, 1) := by decide +kernel
theorem dX5_relax_73 : decode cX5_relax 73 = .ok (.getfield 21, 3) := by decide +kernel
theorem dX5_relax_76 : decode cX5_relax 76 = .ok (.iload_n 2, 1) := by decide +kernel
theorem dX5_relax_77 : decode cX5_relax 77 = .ok (.iaload, 1) := by decide +kernel
theorem dX5_relax_78 : decode cX5_relax 78 = .ok (.iadd, 1) := by decide +kernel
theorem dX5_relax_79 : decode cX5_relax 79 = .ok (.iastore, 1) := by decide +kernel
theorem dX5_relax_80 : decode cX5_relax 80 = .ok (.aload_n 0, 1) := by decide +kernel
theorem dX5_relax_81 : decode cX5_relax 81 = .ok (.getfield 27, 3) := by decide +kernel
theorem dX5_relax_84 : decode cX5_relax 84 = .ok (.aload_n 0, 1) := by decide +kernel
theorem dX5_relax_85 : decode cX5_relax 85 = .ok (.getfield 15, 3) := by decide +kernel
theorem dX5_relax_88 : decode cX5_relax 88 = .ok (.iload_n 2, 1) := by decide +kernel
theorem dX5_relax_89 : decode cX5_relax 89 = .ok (.iaload, 1) := by decide +kernel
theorem dX5_relax_90 : decode cX5_relax 90 = .ok (.iload_n 2, 1) := by decide +kernel
theorem dX5_relax_91 : decode cX5_relax 91 = .ok (.iastore, 1) := by decide +kernel
theorem dX5_relax_92 : decode cX5_relax 92 = .ok (.iconst 1, 1) := by decide +kernel
theorem dX5_relax_93 : decode cX5_relax 93 = .ok (.istore_n 1, 1) := by decide +kernel
theorem dX5_relax_94 : decode cX5_relax 94 = .ok (.iinc 2 1, 3) := by decide +kernel
theorem dX5_relax_97 : decode cX5_relax 97 = .ok (.goto (-93), 3) := by decide +kernel
theorem dX5_relax_100 : decode cX5_relax 100 = .ok (.iload_n 1, 1) := by decide +kernel
theorem dX5_relax_101 : decode cX5_relax 101 = .ok (.ireturn, 1) := by decide +kernel
theorem dX5_carry_0 : decode cX5_carry 0 = .ok (.iload_n 1, 1) := by decide +kernel
theorem dX5_carry_1 : decode cX5_carry 1 = .ok (.istore_n 2, 1) := by decide +kernel
theorem dX5_carry_2 : decode cX5_carry 2 = .ok (.aload_n 0, 1) := by decide +kernel
theorem dX5_carry_3 : decode cX5_carry 3 = .ok (.getfield 27, 3) := by decide +kernel
theorem dX5_carry_6 : decode cX5_carry 6 = .ok (.bipush 21, 2) := by decide +kernel
theorem dX5_carry_8 : decode cX5_carry 8 = .ok (.iaload, 1) := by decide +kernel
theorem dX5_carry_9 : decode cX5_carry 9 = .ok (.istore_n 3, 1) := by decide +kernel
theorem dX5_carry_10 : decode cX5_carry 10 = .ok (.iconst 0, 1) := by decide +kernel
theorem dX5_carry_11 : decode cX5_carry 11 = .ok (.istore 4, 2) := by decide +kernel
theorem dX5_carry_13 : decode cX5_carry 13 = .ok (.iload 4, 2) := by decide +kernel
theorem dX5_carry_15 : decode cX5_carry 15 = .ok (.bipush 22, 2) := by decide +kernel
theorem dX5_carry_17 : decode cX5_carry 17 = .ok (.if_icmp .ge 37, 3) := by decide +kernel
theorem dX5_carry_20 : decode cX5_carry 20 = .ok (.iload_n 3, 1) := by decide +kernel
theorem dX5_carry_21 : decode cX5_carry 21 = .ok (.iconst (-1), 1) := by decide +kernel
theorem dX5_carry_22 : decode cX5_carry 22 = .ok (.if_icmp .eq 32, 3) := by decide +kernel
theorem dX5_carry_25 : decode cX5_carry 25 = .ok (.iload_n 2, 1) := by decide +kernel
theorem dX5_carry_26 : decode cX5_carry 26 = .ok (.aload_n 0, 1) := by decide +kernel
theorem dX5_carry_27 : decode cX5_carry 27 = .ok (.getfield 18, 3) := by decide +kernel
theorem dX5_carry_30 : decode cX5_carry 30 = .ok (.iload_n 3, 1) := by decide +kernel
theorem dX5_carry_31 : decode cX5_carry 31 = .ok (.iaload, 1) := by decide +kernel
theorem dX5_carry_32 : decode cX5_carry 32 = .ok (.invokestatic 66, 3) := by decide +kernel
theorem dX5_carry_35 : decode cX5_carry 35 = .ok (.istore_n 2, 1) := by decide +kernel
theorem dX5_carry_36 : decode cX5_carry 36 = .ok (.aload_n 0, 1) := by decide +kernel
theorem dX5_carry_37 : decode cX5_carry 37 = .ok (.getfield 27, 3) := by decide +kernel
theorem dX5_carry_40 : decode cX5_carry 40 = .ok (.aload_n 0, 1) := by decide +kernel
theorem dX5_carry_41 : decode cX5_carry 41 = .ok (.getfield 9, 3) := by decide +kernel
theorem dX5_carry_44 : decode cX5_carry 44 = .ok (.iload_n 3, 1) := by decide +kernel
theorem dX5_carry_45 : decode cX5_carry 45 = .ok (.iaload, 1) := by decide +kernel
theorem dX5_carry_46 : decode cX5_carry 46 = .ok (.iaload, 1) := by decide +kernel
theorem dX5_carry_47 : decode cX5_carry 47 = .ok (.istore_n 3, 1) := by decide +kernel
theorem dX5_carry_48 : decode cX5_carry 48 = .ok (.iinc 4 1, 3) := by decide +kernel
theorem dX5_carry_51 : decode cX5_carry 51 = .ok (.goto (-38), 3) := by decide +kernel
theorem dX5_carry_54 : decode cX5_carry 54 = .ok (.aload_n 0, 1) := by decide +kernel
theorem dX5_carry_55 : decode cX5_carry 55 = .ok (.getfield 27, 3) := by decide +kernel
theorem dX5_carry_58 : decode cX5_carry 58 = .ok (.bipush 21, 2) := by decide +kernel
theorem dX5_carry_60 : decode cX5_carry 60 = .ok (.iaload, 1) := by decide +kernel
theorem dX5_carry_61 : decode cX5_carry 61 = .ok (.istore_n 3, 1) := by decide +kernel
theorem dX5_carry_62 : decode cX5_carry 62 = .ok (.iconst 0, 1) := by decide +kernel
theorem dX5_carry_63 : decode cX5_carry 63 = .ok (.istore 4, 2) := by decide +kernel
theorem dX5_carry_65 : decode cX5_carry 65 = .ok (.iload 4, 2) := by decide +kernel
theorem dX5_carry_67 : decode cX5_carry 67 = .ok (.bipush 22, 2) := by decide +kernel
theorem dX5_carry_69 : decode cX5_carry 69 = .ok (.if_icmp .ge 48, 3) := by decide +kernel
theorem dX5_carry_72 : decode cX5_carry 72 = .ok (.iload_n 3, 1) := by decide +kernel
theorem dX5_carry_73 : decode cX5_carry 73 = .ok (.iconst (-1), 1) := by decide +kernel
theorem dX5_carry_74 : decode cX5_carry 74 = .ok (.if_icmp .eq 43, 3) := by decide +kernel
theorem dX5_carry_77 : decode cX5_carry 77 = .ok (.aload_n 0, 1) := by decide +kernel
theorem dX5_carry_78 : decode cX5_carry 78 = .ok (.getfield 18, 3) := by decide +kernel
theorem dX5_carry_81 : decode cX5_carry 81 = .ok (.iload_n 3, 1) := by decide +kernel
theorem dX5_carry_82 : decode cX5_carry 82 = .ok (.dup2, 1) := by decide +kernel
theorem dX5_carry_83 : decode cX5_carry 83 = .ok (.iaload, 1) := by decide +kernel
theorem dX5_carry_84 : decode cX5_carry 84 = .ok (.iload_n 2, 1) := by decide +kernel
theorem dX5_carry_85 : decode cX5_carry 85 = .ok (.isub, 1) := by decide +kernel
theorem dX5_carry_86 : decode cX5_carry 86 = .ok (.iastore, 1) := by decide +kernel
theorem dX5_carry_87 : decode cX5_carry 87 = .ok (.aload_n 0, 1) := by decide +kernel
theorem dX5_carry_88 : decode cX5_carry 88 = .ok (.getfield 18, 3) := by decide +kernel
theorem dX5_carry_91 : decode cX5_carry 91 = .ok (.iload_n 3, 1) := by decide +kernel
theorem dX5_carry_92 : decode cX5_carry 92 = .ok (.iconst 1, 1) := by decide +kernel
theorem dX5_carry_93 : decode cX5_carry 93 = .ok (.ixor, 1) := by decide +kernel
theorem dX5_carry_94 : decode cX5_carry 94 = .ok (.dup2, 1) := by decide +kernel
theorem dX5_carry_95 : decode cX5_carry 95 = .ok (.iaload, 1) := by decide +kernel
theorem dX5_carry_96 : decode cX5_carry 96 = .ok (.iload_n 2, 1) := by decide +kernel
theorem dX5_carry_97 : decode cX5_carry 97 = .ok (.iadd, 1) := by decide +kernel
theorem dX5_carry_98 : decode cX5_carry 98 = .ok (.iastore, 1) := by decide +kernel
theorem dX5_carry_99 : decode cX5_carry 99 = .ok (.aload_n 0, 1) := by decide +kernel
theorem dX5_carry_100 : decode cX5_carry 100 = .ok (.getfield 27, 3) := by decide +kernel
theorem dX5_carry_103 : decode cX5_carry 103 = .ok (.aload_n 0, 1) := by decide +kernel
theorem dX5_carry_104 : decode cX5_carry 104 = .ok (.getfield 9, 3) := by decide +kernel
theorem dX5_carry_107 : decode cX5_carry 107 = .ok (.iload_n 3, 1) := by decide +kernel
theorem dX5_carry_108 : decode cX5_carry 108 = .ok (.iaload, 1) := by decide +kernel
theorem dX5_carry_109 : decode cX5_carry 109 = .ok (.iaload, 1) := by decide +kernel
theorem dX5_carry_110 : decode cX5_carry 110 = .ok (.istore_n 3, 1) := by decide +kernel
theorem dX5_carry_111 : decode cX5_carry 111 = .ok (.iinc 4 1, 3) := by decide +kernel
theorem dX5_carry_114 : decode cX5_carry 114 = .ok (.goto (-49), 3) := by decide +kernel
theorem dX5_carry_117 : decode cX5_carry 117 = .ok (.aload_n 0, 1) := by decide +kernel
theorem dX5_carry_118 : decode cX5_carry 118 = .ok (.dup, 1) := by decide +kernel
theorem dX5_carry_119 : decode cX5_carry 119 = .ok (.getfield 34, 3) := by decide +kernel
theorem dX5_carry_122 : decode cX5_carry 122 = .ok (.iload_n 2, 1) := by decide +kernel
theorem dX5_carry_123 : decode cX5_carry 123 = .ok (.iadd, 1) := by decide +kernel
theorem dX5_carry_124 : decode cX5_carry 124 = .ok (.putfield 34, 3) := by decide +kernel
theorem dX5_carry_127 : decode cX5_carry 127 = .ok (.aload_n 0, 1) := by decide +kernel
theorem dX5_carry_128 : decode cX5_carry 128 = .ok (.dup, 1) := by decide +kernel
theorem dX5_carry_129 : decode cX5_carry 129 = .ok (.getfield 37, 3) := by decide +kernel
theorem dX5_carry_132 : decode cX5_carry 132 = .ok (.iload_n 2, 1) := by decide +kernel
theorem dX5_carry_133 : decode cX5_carry 133 = .ok (.aload_n 0, 1) := by decide +kernel
theorem dX5_carry_134 : decode cX5_carry 134 = .ok (.getfield 24, 3) := by decide +kernel
theorem dX5_carry_137 : decode cX5_carry 137 = .ok (.bipush 21, 2) := by decide +kernel
theorem dX5_carry_139 : decode cX5_carry 139 = .ok (.iaload, 1) := by decide +kernel
theorem dX5_carry_140 : decode cX5_carry 140 = .ok (.imul, 1) := by decide +kernel
theorem dX5_carry_141 : decode cX5_carry 141 = .ok (.iadd, 1) := by decide +kernel
theorem dX5_carry_142 : decode cX5_carry 142 = .ok (.putfield 37, 3) := by decide +kernel
theorem dX5_carry_145 : decode cX5_carry 145 = .ok (.return_, 1) := by decide +kernel
theorem dX6_init_0 : decode cX6_init 0 = .ok (.aload_n 0, 1) := by decide +kernel
theorem dX6_init_1 : decode cX6_init 1 = .ok (.invokespecial 3, 3) := by decide +kernel
theorem dX6_init_4 : decode cX6_init 4 = .ok (.aload_n 0, 1) := by decide +kernel
theorem dX6_init_5 : decode cX6_init 5 = .ok (.bipush 10, 2) := by decide +kernel
theorem dX6_init_7 : decode cX6_init 7 = .ok (.bipush 10, 2) := by decide +kernel
theorem dX6_init_9 : decode cX6_init 9 = .ok (.multianewarray 9 2, 4) := by decide +kernel
theorem dX6_init_13 : decode cX6_init 13 = .ok (.putfield 11, 3) := by decide +kernel
theorem dX6_init_16 : decode cX6_init 16 = .ok (.aload_n 0, 1) := by decide +kernel
theorem dX6_init_17 : decode cX6_init 17 = .ok (.bipush 10, 2) := by decide +kernel
theorem dX6_init_19 : decode cX6_init 19 = .ok (.newarray .int, 2) := by decide +kernel
theorem dX6_init_21 : decode cX6_init 21 = .ok (.putfield 16, 3) := by decide +kernel
theorem dX6_init_24 : decode cX6_init 24 = .ok (.aload_n 0, 1) := by decide +kernel
theorem dX6_init_25 : decode cX6_init 25 = .ok (.bipush 10, 2) := by decide +kernel
theorem dX6_init_27 : decode cX6_init 27 = .ok (.newarray .int, 2) := by decide +kernel
theorem dX6_init_29 : decode cX6_init 29 = .ok (.putfield 20, 3) := by decide +kernel
theorem dX6_init_32 : decode cX6_init 32 = .ok (.aload_n 0, 1) := by decide +kernel
theorem dX6_init_33 : decode cX6_init 33 = .ok (.bipush 10, 2) := by decide +kernel
theorem dX6_init_35 : decode cX6_init 35 = .ok (.newarray .int, 2) := by decide +kernel
theorem dX6_init_37 : decode cX6_init 37 = .ok (.putfield 23, 3) := by decide +kernel
theorem dX6_init_40 : decode cX6_init 40 = .ok (.aload_n 0, 1) := by decide +kernel
theorem dX6_init_41 : decode cX6_init 41 = .ok (.bipush 10, 2) := by decide +kernel
theorem dX6_init_43 : decode cX6_init 43 = .ok (.newarray .int, 2) := by decide +kernel
theorem dX6_init_45 : decode cX6_init 45 = .ok (.putfield 26, 3) := by decide +kernel
theorem dX6_init_48 : decode cX6_init 48 = .ok (.return_, 1) := by decide +kernel
theorem dX6_make_0 : decode cX6_make 0 = .ok (.aload_n 2, 1) := by decide +kernel
theorem dX6_make_1 : decode cX6_make 1 = .ok (.aload_n 1, 1) := by decide +kernel
theorem dX6_make_2 : decode cX6_make 2 = .ok (.aload_n 3, 1) := by decide +kernel
theorem dX6_make_3 : decode cX6_make 3 = .ok (.aload 4, 2) := by decide +kernel
theorem dX6_make_5 : decode cX6_make 5 = .ok (.iload 5, 2) := by decide +kernel
theorem dX6_make_7 : decode cX6_make 7 = .ok (.invokevirtual 29, 3) := by decide +kernel
theorem dX6_make_10 : decode cX6_make 10 = .ok (.pop, 1) := by decide +kernel
theorem dX6_make_11 : decode cX6_make 11 = .ok (.aload_n 0, 1) := by decide +kernel
theorem dX6_make_12 : decode cX6_make 12 = .ok (.aload_n 1, 1) := by decide +kernel
theorem dX6_make_13 : decode cX6_make 13 = .ok (.getfield 35, 3) := by decide +kernel
theorem dX6_make_16 : decode cX6_make 16 = .ok (.aload_n 2, 1) := by decide +kernel
theorem dX6_make_17 : decode cX6_make 17 = .ok (.getfield 41, 3) := by decide +kernel
theorem dX6_make_20 : decode cX6_make 20 = .ok (.aload_n 3, 1) := by decide +kernel
theorem dX6_make_21 : decode cX6_make 21 = .ok (.aload 4, 2) := by decide +kernel
theorem dX6_make_23 : decode cX6_make 23 = .ok (.invokevirtual 45, 3) := by decide +kernel
theorem dX6_make_26 : decode cX6_make 26 = .ok (.aload_n 0, 1) := by decide +kernel
theorem dX6_make_27 : decode cX6_make 27 = .ok (.aload_n 1, 1) := by decide +kernel
theorem dX6_make_28 : decode cX6_make 28 = .ok (.invokevirtual 49, 3) := by decide +kernel
theorem dX6_make_31 : decode cX6_make 31 = .ok (.aload_n 0, 1) := by decide +kernel
theorem dX6_make_32 : decode cX6_make 32 = .ok (.aload_n 1, 1) := by decide +kernel
theorem dX6_make_33 : decode cX6_make 33 = .ok (.invokevirtual 53, 3) := by decide +kernel
theorem dX6_make_36 : decode cX6_make 36 = .ok (.return_, 1) := by decide +kernel
theorem dX6_isTight_0 : decode cX6_isTight 0 = .ok (.aload_n 0, 1) := by decide +kernel
theorem dX6_isTight_1 : decode cX6_isTight 1 = .ok (.getfield 16, 3) := by decide +kernel
theorem dX6_isTight_4 : decode cX6_isTight 4 = .ok (.iload_n 2, 1) := by decide +kernel
theorem dX6_isTight_5 : decode cX6_isTight 5 = .ok (.iaload, 1) := by decide +kernel
theorem dX6_isTight_6 : decode cX6_isTight 6 = .ok (.aload_n 0, 1) := by decide +kernel
theorem dX6_isTight_7 : decode cX6_isTight 7 = .ok (.getfield 16, 3) := by decide +kernel
theorem dX6_isTight_10 : decode cX6_isTight 10 = .ok (.iload_n 3, 1) := by decide +kernel
theorem dX6_isTight_11 : decode cX6_isTight 11 = .ok (.iaload, 1) := by decide +kernel
theorem dX6_isTight_12 : decode cX6_isTight 12 = .ok (.isub, 1) := by decide +kernel
theorem dX6_isTight_13 : decode cX6_isTight 13 = .ok (.aload_n 1, 1) := by decide +kernel
theorem dX6_isTight_14 : decode cX6_isTight 14 = .ok (.getfield 56, 3) := by decide +kernel
theorem dX6_isTight_17 : decode cX6_isTight 17 = .ok (.iload_n 2, 1) := by decide +kernel
theorem dX6_isTight_18 : decode cX6_isTight 18 = .ok (.aaload, 1) := by decide +kernel
theorem dX6_isTight_19 : decode cX6_isTight 19 = .ok (.iload_n 3, 1) := by decide +kernel
theorem dX6_isTight_20 : decode cX6_isTight 20 = .ok (.iaload, 1) := by decide +kernel
theorem dX6_isTight_21 : decode cX6_isTight 21 = .ok (.if_icmp .ne 7, 3) := by decide +kernel
theorem dX6_isTight_24 : decode cX6_isTight 24 = .ok (.iconst 1, 1) := by decide +kernel
theorem dX6_isTight_25 : decode cX6_isTight 25 = .ok (.goto 4, 3) := by decide +kernel
theorem dX6_isTight_28 : decode cX6_isTight 28 = .ok (.iconst 0, 1) := by decide +kernel
theorem dX6_isTight_29 : decode cX6_isTight 29 = .ok (.ireturn, 1) := by decide +kernel
theorem dX6_takeGoods_0 : decode cX6_takeGoods 0 = .ok (.iconst 0, 1) := by decide +kernel
theorem dX6_takeGoods_1 : decode cX6_takeGoods 1 = .ok (.istore 5, 2) := by decide +kernel
theorem dX6_takeGoods_3 : decode cX6_takeGoods 3 = .ok (.iload 5, 2) := by decide +kernel
theorem dX6_takeGoods_5 : decode cX6_takeGoods 5 = .ok (.iload_n 1, 1) := by decide +kernel
theorem dX6_takeGoods_6 : decode cX6_takeGoods 6 = .ok (.if_icmp .ge 42, 3) := by decide +kernel
theorem dX6_takeGoods_9 : decode cX6_takeGoods 9 = .ok (.aload_n 0, 1) := by decide +kernel
theorem dX6_takeGoods_10 : decode cX6_takeGoods 10 = .ok (.getfield 11, 3) := by decide +kernel
theorem dX6_takeGoods_13 : decode cX6_takeGoods 13 = .ok (.iload 5, 2) := by decide +kernel
theorem dX6_takeGoods_15 : decode cX6_takeGoods 15 = .ok (.aaload, 1) := by decide +kernel
theorem dX6_takeGoods_16 : decode cX6_takeGoods 16 = .ok (.iconst 0, 1) := by decide +kernel
theorem dX6_takeGoods_17 : decode cX6_takeGoods 17 = .ok (.invokestatic 59, 3) := by decide +kernel
theorem dX6_takeGoods_20 : decode cX6_takeGoods 20 = .ok (.aload_n 0, 1) := by decide +kernel
theorem dX6_takeGoods_21 : decode cX6_takeGoods 21 = .ok (.getfield 11, 3) := by decide +kernel
theorem dX6_takeGoods_24 : decode cX6_takeGoods 24 = .ok (.iload 5, 2) := by decide +kernel
theorem dX6_takeGoods_26 : decode cX6_takeGoods 26 = .ok (.aaload, 1) := by decide +kernel
theorem dX6_takeGoods_27 : decode cX6_takeGoods 27 = .ok (.iload 5, 2) := by decide +kernel
theorem dX6_takeGoods_29 : decode cX6_takeGoods 29 = .ok (.aload_n 3, 1) := by decide +kernel
theorem dX6_takeGoods_30 : decode cX6_takeGoods 30 = .ok (.iload 5, 2) := by decide +kernel
theorem dX6_takeGoods_32 : decode cX6_takeGoods 32 = .ok (.iaload, 1) := by decide +kernel
theorem dX6_takeGoods_33 : decode cX6_takeGoods 33 = .ok (.aload 4, 2) := by decide +kernel
theorem dX6_takeGoods_35 : decode cX6_takeGoods 35 = .ok (.iload 5, 2) := by decide +kernel
theorem dX6_takeGoods_37 : decode cX6_takeGoods 37 = .ok (.iaload, 1) := by decide +kernel
theorem dX6_takeGoods_38 : decode cX6_takeGoods 38 = .ok (.invokestatic 65, 3) := by decide +kernel
theorem dX6_takeGoods_41 : decode cX6_takeGoods 41 = .ok (.iastore, 1) := by decide +kernel
theorem dX6_takeGoods_42 : decode cX6_takeGoods 42 = .ok (.iinc 5 1, 3) := by decide +kernel
theorem dX6_takeGoods_45 : decode cX6_takeGoods 45 = .ok (.goto (-42), 3) := by decide +kernel
theorem dX6_takeGoods_48 : decode cX6_takeGoods 48 = .ok (.iconst 0, 1) := by decide +kernel
theorem dX6_takeGoods_49 : decode cX6_takeGoods 49 = .ok (.istore 5, 2) := by decide +kernel
theorem dX6_takeGoods_51 : decode cX6_takeGoods 51 = .ok (.iload 5, 2) := by decide +kernel
theorem dX6_takeGoods_53 : decode cX6_takeGoods 53 = .ok (.iconst 1, 1) := by decide +kernel
theorem dX6_takeGoods_54 : decode cX6_takeGoods 54 = .ok (.iadd, 1) := by decide +kernel
theorem dX6_takeGoods_55 : decode cX6_takeGoods 55 = .ok (.aload_n 2, 1) := by decide +kernel
theorem dX6_takeGoods_56 : decode cX6_takeGoods 56 = .ok (.getfield 71, 3) := by decide +kernel
theorem dX6_takeGoods_59 : decode cX6_takeGoods 59 = .ok (.if_icmp .ge 58, 3) := by decide +kernel
theorem dX6_takeGoods_62 : decode cX6_takeGoods 62 = .ok (.aload_n 2, 1) := by decide +kernel
theorem dX6_takeGoods_63 : decode cX6_takeGoods 63 = .ok (.getfield 76, 3) := by decide +kernel
theorem dX6_takeGoods_66 : decode cX6_takeGoods 66 = .ok (.iload 5, 2) := by decide +kernel
theorem dX6_takeGoods_68 : decode cX6_takeGoods 68 = .ok (.iaload, 1) := by decide +kernel
theorem dX6_takeGoods_69 : decode cX6_takeGoods 69 = .ok (.istore 6, 2) := by decide +kernel
theorem dX6_takeGoods_71 : decode cX6_takeGoods 71 = .ok (.aload_n 2, 1) := by decide +kernel
theorem dX6_takeGoods_72 : decode cX6_takeGoods 72 = .ok (.getfield 79, 3) := by decide +kernel
theorem dX6_takeGoods_75 : decode cX6_takeGoods 75 = .ok (.iload 5, 2) := by decide +kernel
theorem dX6_takeGoods_77 : decode cX6_takeGoods 77 = .ok (.iaload, 1) := by decide +kernel
theorem dX6_takeGoods_78 : decode cX6_takeGoods 78 = .ok (.istore 7, 2) := by decide +kernel
theorem dX6_takeGoods_80 : decode cX6_takeGoods 80 = .ok (.iload 6, 2) := by decide +kernel
theorem dX6_takeGoods_82 : decode cX6_takeGoods 82 = .ok (.iload_n 1, 1) := by decide +kernel
theorem dX6_takeGoods_83 : decode cX6_takeGoods 83 = .ok (.if_icmp .ge 28, 3) := by decide +kernel
theorem dX6_takeGoods_86 : decode cX6_takeGoods 86 = .ok (.iload 7, 2) := by decide +kernel
theorem dX6_takeGoods_88 : decode cX6_takeGoods 88 = .ok (.iload_n 1, 1) := by decide +kernel
theorem dX6_takeGoods_89 : decode cX6_takeGoods 89 = .ok (.if_icmp .ge 22, 3) := by decide +kernel
theorem dX6_takeGoods_92 : decode cX6_takeGoods 92 = .ok (.aload_n 0, 1) := by decide +kernel
theorem dX6_takeGoods_93 : decode cX6_takeGoods 93 = .ok (.getfield 11, 3) := by decide +kernel
theorem dX6_takeGoods_96 : decode cX6_takeGoods 96 = .ok (.iload 6, 2) := by decide +kernel
theorem dX6_takeGoods_98 : decode cX6_takeGoods 98 = .ok (.aaload, 1) := by decide +kernel
theorem dX6_takeGoods_99 : decode cX6_takeGoods 99 = .ok (.iload 7, 2) := by decide +kernel
theorem dX6_takeGoods_101 : decode cX6_takeGoods 101 = .ok (.aload_n 2, 1) := by decide +kernel
theorem dX6_takeGoods_102 : decode cX6_takeGoods 102 = .ok (.getfield 82, 3) := by decide +kernel
theorem dX6_takeGoods_105 : decode cX6_takeGoods 105 = .ok (.iload 5, 2) := by decide +kernel
theorem dX6_takeGoods_107 : decode cX6_takeGoods 107 = .ok (.iconst 1, 1) := by decide +kernel
theorem dX6_takeGoods_108 : decode cX6_takeGoods 108 = .ok (.iadd, 1) := by decide +kernel
theorem dX6_takeGoods_109 : decode cX6_takeGoods 109 = .ok (.iaload, 1) := by decide +kernel
theorem dX6_takeGoods_110 : decode cX6_takeGoods 110 = .ok (.iastore, 1) := by decide +kernel
theorem dX6_takeGoods_111 : decode cX6_takeGoods 111 = .ok (.iinc 5 2, 3) := by decide +kernel
theorem dX6_takeGoods_114 : decode cX6_takeGoods 114 = .ok (.goto (-63), 3) := by decide +kernel
theorem dX6_takeGoods_117 : decode cX6_takeGoods 117 = .ok (.return_, 1) := by decide +kernel
theorem dX6_raiseHeights_0 : decode cX6_raiseHeights 0 = .ok (.iconst 0, 1) := by decide +kernel
theorem dX6_raiseHeights_1 : decode cX6_raiseHeights 1 = .ok (.istore_n 2, 1) := by decide +kernel
theorem dX6_raiseHeights_2 : decode cX6_raiseHeights 2 = .ok (.iload_n 2, 1) := by decide +kernel
theorem dX6_raiseHeights_3 : decode cX6_raiseHeights 3 = .ok (.aload_n 1, 1) := by decide +kernel
theorem dX6_raiseHeights_4 : decode cX6_raiseHeights 4 = .ok (.getfield 35, 3) := by decide +kernel
theorem dX6_raiseHeights_7 : decode cX6_raiseHeights 7 = .ok (.if_icmp .ge 23, 3) := by decide +kernel
theorem dX6_raiseHeights_10 : decode cX6_raiseHeights 10 = .ok (.aload_n 0, 1) := by decide +kernel
theorem dX6_raiseHeights_11 : decode cX6_raiseHeights 11 = .ok (.getfield 16, 3) := by decide +kernel
theorem dX6_raiseHeights_14 : decode cX6_raiseHeights 14 = .ok (.iload_n 2, 1) := by decide +kernel
theorem dX6_raiseHeights_15 : decode cX6_raiseHeights 15 = .ok (.aload_n 1, 1) := by decide +kernel
theorem dX6_raiseHeights_16 : decode cX6_raiseHeights 16 = .ok (.getfield 56, 3) := by decide +kernel
theorem dX6_raiseHeights_19 : decode cX6_raiseHeights 19 = .ok (.iload_n 2, 1) := by decide +kernel
theorem dX6_raiseHeights_20 : decode cX6_raiseHeights 20 = .ok (.aaload, 1) := by decide +kernel
theorem dX6_raiseHeights_21 : decode cX6_raiseHeights 21 = .ok (.iconst 0, 1) := by decide +kernel
theorem dX6_raiseHeights_22 : decode cX6_raiseHeights 22 = .ok (.iaload, 1) := by decide +kernel
theorem dX6_raiseHeights_23 : decode cX6_raiseHeights 23 = .ok (.iastore, 1) := by decide +kernel
theorem dX6_raiseHeights_24 : decode cX6_raiseHeights 24 = .ok (.iinc 2 1, 3) := by decide +kernel
theorem dX6_raiseHeights_27 : decode cX6_raiseHeights 27 = .ok (.goto (-25), 3) := by decide +kernel
theorem dX6_raiseHeights_30 : decode cX6_raiseHeights 30 = .ok (.iconst 0, 1) := by decide +kernel
theorem dX6_raiseHeights_31 : decode cX6_raiseHeights 31 = .ok (.istore_n 2, 1) := by decide +kernel
theorem dX6_raiseHeights_32 : decode cX6_raiseHeights 32 = .ok (.iload_n 2, 1) := by decide +kernel
theorem dX6_raiseHeights_33 : decode cX6_raiseHeights 33 = .ok (.aload_n 1, 1) := by decide +kernel
theorem dX6_raiseHeights_34 : decode cX6_raiseHeights 34 = .ok (.getfield 35, 3) := by decide +kernel
theorem dX6_raiseHeights_37 : decode cX6_raiseHeights 37 = .ok (.if_icmp .ge 20, 3) := by decide +kernel
theorem dX6_raiseHeights_40 : decode cX6_raiseHeights 40 = .ok (.aload_n 0, 1) := by decide +kernel
theorem dX6_raiseHeights_41 : decode cX6_raiseHeights 41 = .ok (.aload_n 1, 1) := by decide +kernel
theorem dX6_raiseHeights_42 : decode cX6_raiseHeights 42 = .ok (.invokevirtual 85, 3) := by decide +kernel
theorem dX6_raiseHeights_45 : decode cX6_raiseHeights 45 = .ok (.ifCond .ne 6, 3) := by decide +kernel
theorem dX6_raiseHeights_48 : decode cX6_raiseHeights 48 = .ok (.goto 9, 3) := by decide +kernel
theorem dX6_raiseHeights_51 : decode cX6_raiseHeights 51 = .ok (.iinc 2 1, 3) := by decide +kernel
theorem dX6_raiseHeights_54 : decode cX6_raiseHeights 54 = .ok (.goto (-22), 3) := by decide +kernel
theorem dX6_raiseHeights_57 : decode cX6_raiseHeights 57 = .ok (.return_, 1) := by decide +kernel
theorem dX6_lowerHeights_0 : decode cX6_lowerHeights 0 = .ok (.iconst 0, 1) := by decide +kernel
theorem dX6_lowerHeights_1 : decode cX6_lowerHeights 1 = .ok (.istore_n 2, 1) := by decide +kernel
theorem dX6_lowerHeights_2 : decode cX6_lowerHeights 2 = .ok (.iconst 0, 1) := by decide +kernel
theorem dX6_lowerHeights_3 : decode cX6_lowerHeights 3 = .ok (.istore_n 3, 1) := by decide +kernel
theorem dX6_lowerHeights_4 : decode cX6_lowerHeights 4 = .ok (.iload_n 3, 1) := by decide +kernel
theorem dX6_lowerHeights_5 : decode cX6_lowerHeights 5 = .ok (.aload_n 1, 1) := by decide +kernel
theorem dX6_lowerHeights_6 : decode cX6_lowerHeights 6 = .ok (.getfield 35, 3) := by decide +kernel
theorem dX6_lowerHeights_9 : decode cX6_lowerHeights 9 = .ok (.if_icmp .ge 124, 3) := by decide +kernel
theorem dX6_lowerHeights_12 : decode cX6_lowerHeights 12 = .ok (.iconst 0, 1) := by decide +kernel
theorem dX6_lowerHeights_13 : decode cX6_lowerHeights 13 = .ok (.istore 4, 2) := by decide +kernel
theorem dX6_lowerHeights_15 : decode cX6_lowerHeights 15 = .ok (.iload 4, 2) := by decide +kernel
theorem dX6_lowerHeights_17 : decode cX6_lowerHeights 17 = .ok (.aload_n 1, 1) := by decide +kernel
theorem dX6_lowerHeights_18 : decode cX6_lowerHeights 18 = .ok (.getfield 35, 3) := by decide +kernel
theorem dX6_lowerHeights_21 : decode cX6_lowerHeights 21 = .ok (.if_icmp .ge 106, 3) := by decide +kernel
theorem dX6_lowerHeights_24 : decode cX6_lowerHeights 24 = .ok (.aload_n 1, 1) := by decide +kernel
theorem dX6_lowerHeights_25 : decode cX6_lowerHeights 25 = .ok (.getfield 56, 3) := by decide +kernel
theorem dX6_lowerHeights_28 : decode cX6_lowerHeights 28 = .ok (.iload_n 3, 1) := by decide +kernel
theorem dX6_lowerHeights_29 : decode cX6_lowerHeights 29 = .ok (.aaload, 1) := by decide +kernel
theorem dX6_lowerHeights_30 : decode cX6_lowerHeights 30 = .ok (.iload 4, 2) := by decide +kernel
theorem dX6_lowerHeights_32 : decode cX6_lowerHeights 32 = .ok (.iaload, 1) := by decide +kernel
theorem dX6_lowerHeights_33 : decode cX6_lowerHeights 33 = .ok (.istore 5, 2) := by decide +kernel
theorem dX6_lowerHeights_35 : decode cX6_lowerHeights 35 = .ok (.aload_n 0, 1) := by decide +kernel
theorem dX6_lowerHeights_36 : decode cX6_lowerHeights 36 = .ok (.getfield 16, 3) := by decide +kernel
theorem dX6_lowerHeights_39 : decode cX6_lowerHeights 39 = .ok (.iload_n 3, 1) := by decide +kernel
theorem dX6_lowerHeights_40 : decode cX6_lowerHeights 40 = .ok (.iaload, 1) := by decide +kernel
theorem dX6_lowerHeights_41 : decode cX6_lowerHeights 41 = .ok (.aload_n 0, 1) := by decide +kernel
theorem dX6_lowerHeights_42 : decode cX6_lowerHeights 42 = .ok (.getfield 16, 3) := by decide +kernel
theorem dX6_lowerHeights_45 : decode cX6_lowerHeights 45 = .ok (.iload 4, 2) := by decide +kernel
theorem dX6_lowerHeights_47 : decode cX6_lowerHeights 47 = .ok (.iaload, 1) := by decide +kernel
theorem dX6_lowerHeights_48 : decode cX6_lowerHeights 48 = .ok (.iload 5, 2) := by decide +kernel
theorem dX6_lowerHeights_50 : decode cX6_lowerHeights 50 = .ok (.iadd, 1) := by decide +kernel
theorem dX6_lowerHeights_51 : decode cX6_lowerHeights 51 = .ok (.if_icmp .le 21, 3) := by decide +kernel
theorem dX6_lowerHeights_54 : decode cX6_lowerHeights 54 = .ok (.aload_n 0, 1) := by decide +kernel
theorem dX6_lowerHeights_55 : decode cX6_lowerHeights 55 = .ok (.getfield 16, 3) := by decide +kernel
theorem dX6_lowerHeights_58 : decode cX6_lowerHeights 58 = .ok (.iload_n 3, 1) := by decide +kernel
theorem dX6_lowerHeights_59 : decode cX6_lowerHeights 59 = .ok (.aload_n 0, 1) := by decide +kernel
theorem dX6_lowerHeights_60 : decode cX6_lowerHeights 60 = .ok (.getfield 16, 3) := by decide +kernel
theorem dX6_lowerHeights_63 : decode cX6_lowerHeights 63 = .ok (.iload 4, 2) := by decide +kernel
theorem dX6_lowerHeights_65 : decode cX6_lowerHeights 65 = .ok (.iaload, 1) := by decide +kernel
theorem dX6_lowerHeights_66 : decode cX6_lowerHeights 66 = .ok (.iload 5, 2) := by decide +kernel
theorem dX6_lowerHeights_68 : decode cX6_lowerHeights 68 = .ok (.iadd, 1) := by decide +kernel
theorem dX6_lowerHeights_69 : decode cX6_lowerHeights 69 = .ok (.iastore, 1) := by decide +kernel
theorem dX6_lowerHeights_70 : decode cX6_lowerHeights 70 = .ok (.iconst 1, 1) := by decide +kernel
theorem dX6_lowerHeights_71 : decode cX6_lowerHeights 71 = .ok (.istore_n 2, 1) := by decide +kernel
theorem dX6_lowerHeights_72 : decode cX6_lowerHeights 72 = .ok (.aload_n 0, 1) := by decide +kernel
theorem dX6_lowerHeights_73 : decode cX6_lowerHeights 73 = .ok (.getfield 11, 3) := by decide +kernel
theorem dX6_lowerHeights_76 : decode cX6_lowerHeights 76 = .ok (.iload_n 3, 1) := by decide +kernel
theorem dX6_lowerHeights_77 : decode cX6_lowerHeights 77 = .ok (.aaload, 1) := by decide +kernel
theorem dX6_lowerHeights_78 : decode cX6_lowerHeights 78 = .ok (.iload 4, 2) := by decide +kernel
theorem dX6_lowerHeights_80 : decode cX6_lowerHeights 80 = .ok (.iaload, 1) := by decide +kernel
theorem dX6_lowerHeights_81 : decode cX6_lowerHeights 81 = .ok (.ifCond .le 40, 3) := by decide +kernel
theorem dX6_lowerHeights_84 : decode cX6_lowerHeights 84 = .ok (.aload_n 0, 1) := by decide +kernel
theorem dX6_lowerHeights_85 : decode cX6_lowerHeights 85 = .ok (.getfield 16, 3) := by decide +kernel
theorem dX6_lowerHeights_88 : decode cX6_lowerHeights 88 = .ok (.iload 4, 2) := by decide +kernel
theorem dX6_lowerHeights_90 : decode cX6_lowerHeights 90 = .ok (.iaload, 1) := by decide +kernel
theorem dX6_lowerHeights_91 : decode cX6_lowerHeights 91 = .ok (.aload_n 0, 1) := by decide +kernel
theorem dX6_lowerHeights_92 : decode cX6_lowerHeights 92 = .ok (.getfield 16, 3) := by decide +kernel
theorem dX6_lowerHeights_95 : decode cX6_lowerHeights 95 = .ok (.iload_n 3, 1) := by decide +kernel
theorem dX6_lowerHeights_96 : decode cX6_lowerHeights 96 = .ok (.iaload, 1) := by decide +kernel
theorem dX6_lowerHeights_97 : decode cX6_lowerHeights 97 = .ok (.iload 5, 2) := by decide +kernel
theorem dX6_lowerHeights_99 : decode cX6_lowerHeights 99 = .ok (.isub, 1) := by decide +kernel
theorem dX6_lowerHeights_100 : decode cX6_lowerHeights 100 = .ok (.if_icmp .le 21, 3) := by decide +kernel
theorem dX6_lowerHeights_103 : decode cX6_lowerHeights 103 = .ok (.aload_n 0, 1) := by decide +kernel
theorem dX6_lowerHeights_104 : decode cX6_lowerHeights 104 = .ok (.getfield 16, 3) := by decide +kernel
theorem dX6_lowerHeights_107 : decode cX6_lowerHeights 107 = .ok (.iload 4, 2) := by decide +kernel
theorem dX6_lowerHeights_109 : decode cX6_lowerHeights 109 = .ok (.aload_n 0, 1) := by decide +kernel
theorem dX6_lowerHeights_110 : decode cX6_lowerHeights 110 = .ok (.getfield 16, 3) := by decide +kernel
theorem dX6_lowerHeights_113 : decode cX6_lowerHeights 113 = .ok (.iload_n 3, 1) := by decide +kernel
theorem dX6_lowerHeights_114 : decode cX6_lowerHeights 114 = .ok (.iaload, 1) := by decide +kernel
theorem dX6_lowerHeights_115 : decode cX6_lowerHeights 115 = .ok (.iload 5, 2) := by decide +kernel
theorem dX6_lowerHeights_117 : decode cX6_lowerHeights 117 = .ok (.isub, 1) := by decide +kernel
theorem dX6_lowerHeights_118 : decode cX6_lowerHeights 118 = .ok (.iastore, 1) := by decide +kernel
theorem dX6_lowerHeights_119 : decode cX6_lowerHeights 119 = .ok (.iconst 1, 1) := by decide +kernel
theorem dX6_lowerHeights_120 : decode cX6_lowerHeights 120 = .ok (.istore_n 2, 1) := by decide +kernel
theorem dX6_lowerHeights_121 : decode cX6_lowerHeights 121 = .ok (.iinc 4 1, 3) := by decide +kernel
theorem dX6_lowerHeights_124 : decode cX6_lowerHeights 124 = .ok (.goto (-109), 3) := by decide +kernel
theorem dX6_lowerHeights_127 : decode cX6_lowerHeights 127 = .ok (.iinc 3 1, 3) := by decide +kernel
theorem dX6_lowerHeights_130 : decode cX6_lowerHeights 130 = .ok (.goto (-126), 3) := by decide +kernel
theorem dX6_lowerHeights_133 : decode cX6_lowerHeights 133 = .ok (.iload_n 2, 1) := by decide +kernel
theorem dX6_lowerHeights_134 : decode cX6_lowerHeights 134 = .ok (.ireturn, 1) := by decide +kernel
theorem dX6_putFirst_0 : decode cX6_putFirst 0 = .ok (.iconst 0, 1) := by decide +kernel
theorem dX6_putFirst_1 : decode cX6_putFirst 1 = .ok (.istore_n 2, 1) := by decide +kernel
theorem dX6_putFirst_2 : decode cX6_putFirst 2 = .ok (.iload_n 2, 1) := by decide +kernel
theorem dX6_putFirst_3 : decode cX6_putFirst 3 = .ok (.aload_n 1, 1) := by decide +kernel
theorem dX6_putFirst_4 : decode cX6_putFirst 4 = .ok (.getfield 35, 3) := by decide +kernel
theorem dX6_putFirst_7 : decode cX6_putFirst 7 = .ok (.if_icmp .ge 79, 3) := by decide +kernel
theorem dX6_putFirst_10 : decode cX6_putFirst 10 = .ok (.iconst 0, 1) := by decide +kernel
theorem dX6_putFirst_11 : decode cX6_putFirst 11 = .ok (.istore_n 3, 1) := by decide +kernel
theorem dX6_putFirst_12 : decode cX6_putFirst 12 = .ok (.iload_n 3, 1) := by decide +kernel
theorem dX6_putFirst_13 : decode cX6_putFirst 13 = .ok (.aload_n 1, 1) := by decide +kernel
theorem dX6_putFirst_14 : decode cX6_putFirst 14 = .ok (.getfield 35, 3) := by decide +kernel
theorem dX6_putFirst_17 : decode cX6_putFirst 17 = .ok (.if_icmp .ge 63, 3) := by decide +kernel
theorem dX6_putFirst_20 : decode cX6_putFirst 20 = .ok (.aload_n 0, 1) := by decide +kernel
theorem dX6_putFirst_21 : decode cX6_putFirst 21 = .ok (.aload_n 1, 1) := by decide +kernel
theorem dX6_putFirst_22 : decode cX6_putFirst 22 = .ok (.iload_n 2, 1) := by decide +kernel
theorem dX6_putFirst_23 : decode cX6_putFirst 23 = .ok (.iload_n 3, 1) := by decide +kernel
theorem dX6_putFirst_24 : decode cX6_putFirst 24 = .ok (.invokevirtual 89, 3) := by decide +kernel
theorem dX6_putFirst_27 : decode cX6_putFirst 27 = .ok (.ifCond .eq 47, 3) := by decide +kernel
theorem dX6_putFirst_30 : decode cX6_putFirst 30 = .ok (.iload_n 2, 1) := by decide +kernel
theorem dX6_putFirst_31 : decode cX6_putFirst 31 = .ok (.iload_n 3, 1) := by decide +kernel
theorem dX6_putFirst_32 : decode cX6_putFirst 32 = .ok (.invokestatic 93, 3) := by decide +kernel
theorem dX6_putFirst_35 : decode cX6_putFirst 35 = .ok (.iconst 1, 1) := by decide +kernel
theorem dX6_putFirst_36 : decode cX6_putFirst 36 = .ok (.iadd, 1) := by decide +kernel
theorem dX6_putFirst_37 : decode cX6_putFirst 37 = .ok (.istore 4, 2) := by decide +kernel
theorem dX6_putFirst_39 : decode cX6_putFirst 39 = .ok (.iconst 0, 1) := by decide +kernel
theorem dX6_putFirst_40 : decode cX6_putFirst 40 = .ok (.istore 5, 2) := by decide +kernel
theorem dX6_putFirst_42 : decode cX6_putFirst 42 = .ok (.iload 5, 2) := by decide +kernel
theorem dX6_putFirst_44 : decode cX6_putFirst 44 = .ok (.sipush 1000, 3) := by decide +kernel
theorem dX6_putFirst_47 : decode cX6_putFirst 47 = .ok (.if_icmp .ge 27, 3) := by decide +kernel
theorem dX6_putFirst_50 : decode cX6_putFirst 50 = .ok (.aload_n 0, 1) := by decide +kernel
theorem dX6_putFirst_51 : decode cX6_putFirst 51 = .ok (.aload_n 1, 1) := by decide +kernel
theorem dX6_putFirst_52 : decode cX6_putFirst 52 = .ok (.iload_n 2, 1) := by decide +kernel
theorem dX6_putFirst_53 : decode cX6_putFirst 53 = .ok (.iload_n 3, 1) := by decide +kernel
theorem dX6_putFirst_54 : decode cX6_putFirst 54 = .ok (.iload 4, 2) := by decide +kernel
theorem dX6_putFirst_56 : decode cX6_putFirst 56 = .ok (.invokevirtual 96, 3) := by decide +kernel
theorem dX6_putFirst_59 : decode cX6_putFirst 59 = .ok (.ifCond .eq 15, 3) := by decide +kernel
theorem dX6_putFirst_62 : decode cX6_putFirst 62 = .ok (.aload_n 0, 1) := by decide +kernel
theorem dX6_putFirst_63 : decode cX6_putFirst 63 = .ok (.iload_n 2, 1) := by decide +kernel
theorem dX6_putFirst_64 : decode cX6_putFirst 64 = .ok (.iload_n 3, 1) := by decide +kernel
theorem dX6_putFirst_65 : decode cX6_putFirst 65 = .ok (.invokevirtual 100, 3) := by decide +kernel
theorem dX6_putFirst_68 : decode cX6_putFirst 68 = .ok (.iinc 5 1, 3) := by decide +kernel
theorem dX6_putFirst_71 : decode cX6_putFirst 71 = .ok (.goto (-29), 3) := by decide +kernel
theorem dX6_putFirst_74 : decode cX6_putFirst 74 = .ok (.iinc 3 1, 3) := by decide +kernel
theorem dX6_putFirst_77 : decode cX6_putFirst 77 = .ok (.goto (-65), 3) := by decide +kernel
theorem dX6_putFirst_80 : decode cX6_putFirst 80 = .ok (.iinc 2 1, 3) := by decide +kernel
theorem dX6_putFirst_83 : decode cX6_putFirst 83 = .ok (.goto (-81), 3) := by decide +kernel
theorem dX6_putFirst_86 : decode cX6_putFirst 86 = .ok (.return_, 1) := by decide +kernel
theorem dX6_hasOther_0 : decode cX6_hasOther 0 = .ok (.iconst 0, 1) := by decide +kernel
theorem dX6_hasOther_1 : decode cX6_hasOther 1 = .ok (.istore_n 2, 1) := by decide +kernel
theorem dX6_hasOther_2 : decode cX6_hasOther 2 = .ok (.iload_n 2, 1) := by decide +kernel
theorem dX6_hasOther_3 : decode cX6_hasOther 3 = .ok (.aload_n 1, 1) := by decide +kernel
theorem dX6_hasOther_4 : decode cX6_hasOther 4 = .ok (.getfield 35, 3) := by decide +kernel
theorem dX6_hasOther_7 : decode cX6_hasOther 7 = .ok (.if_icmp .ge 48, 3) := by decide +kernel
theorem dX6_hasOther_10 : decode cX6_hasOther 10 = .ok (.iconst 0, 1) := by decide +kernel
theorem dX6_hasOther_11 : decode cX6_hasOther 11 = .ok (.istore_n 3, 1) := by decide +kernel
theorem dX6_hasOther_12 : decode cX6_hasOther 12 = .ok (.iload_n 3, 1) := by decide +kernel
theorem dX6_hasOther_13 : decode cX6_hasOther 13 = .ok (.aload_n 1, 1) := by decide +kernel
theorem dX6_hasOther_14 : decode cX6_hasOther 14 = .ok (.getfield 35, 3) := by decide +kernel
theorem dX6_hasOther_17 : decode cX6_hasOther 17 = .ok (.if_icmp .ge 32, 3) := by decide +kernel
theorem dX6_hasOther_20 : decode cX6_hasOther 20 = .ok (.aload_n 0, 1) := by decide +kernel
theorem dX6_hasOther_21 : decode cX6_hasOther 21 = .ok (.aload_n 1, 1) := by decide +kernel
theorem dX6_hasOther_22 : decode cX6_hasOther 22 = .ok (.iload_n 2, 1) := by decide +kernel
theorem dX6_hasOther_23 : decode cX6_hasOther 23 = .ok (.iload_n 3, 1) := by decide +kernel
theorem dX6_hasOther_24 : decode cX6_hasOther 24 = .ok (.invokevirtual 89, 3) := by decide +kernel
theorem dX6_hasOther_27 : decode cX6_hasOther 27 = .ok (.ifCond .eq 16, 3) := by decide +kernel
theorem dX6_hasOther_30 : decode cX6_hasOther 30 = .ok (.aload_n 0, 1) := by decide +kernel
theorem dX6_hasOther_31 : decode cX6_hasOther 31 = .ok (.aload_n 1, 1) := by decide +kernel
theorem dX6_hasOther_32 : decode cX6_hasOther 32 = .ok (.iload_n 2, 1) := by decide +kernel
theorem dX6_hasOther_33 : decode cX6_hasOther 33 = .ok (.iload_n 3, 1) := by decide +kernel
theorem dX6_hasOther_34 : decode cX6_hasOther 34 = .ok (.iconst 0, 1) := by decide +kernel
theorem dX6_hasOther_35 : decode cX6_hasOther 35 = .ok (.invokevirtual 96, 3) := by decide +kernel
theorem dX6_hasOther_38 : decode cX6_hasOther 38 = .ok (.ifCond .eq 5, 3) := by decide +kernel
theorem dX6_hasOther_41 : decode cX6_hasOther 41 = .ok (.iconst 1, 1) := by decide +kernel
theorem dX6_hasOther_42 : decode cX6_hasOther 42 = .ok (.ireturn, 1) := by decide +kernel
theorem dX6_hasOther_43 : decode cX6_hasOther 43 = .ok (.iinc 3 1, 3) := by decide +kernel
theorem dX6_hasOther_46 : decode cX6_hasOther 46 = .ok (.goto (-34), 3) := by decide +kernel
theorem dX6_hasOther_49 : decode cX6_hasOther 49 = .ok (.iinc 2 1, 3) := by decide +kernel
theorem dX6_hasOther_52 : decode cX6_hasOther 52 = .ok (.goto (-50), 3) := by decide +kernel
theorem dX6_hasOther_55 : decode cX6_hasOther 55 = .ok (.iconst 0, 1) := by decide +kernel
theorem dX6_hasOther_56 : decode cX6_hasOther 56 = .ok (.ireturn, 1) := by decide +kernel
theorem dX6_cell_0 : decode cX6_cell 0 = .ok (.iload_n 0, 1) := by decide +kernel
theorem dX6_cell_1 : decode cX6_cell 1 = .ok (.bipush 10, 2) := by decide +kernel
theorem dX6_cell_3 : decode cX6_cell 3 = .ok (.imul, 1) := by decide +kernel
theorem dX6_cell_4 : decode cX6_cell 4 = .ok (.iload_n 1, 1) := by decide +kernel
theorem dX6_cell_5 : decode cX6_cell 5 = .ok (.iadd, 1) := by decide +kernel
theorem dX6_cell_6 : decode cX6_cell 6 = .ok (.ireturn, 1) := by decide +kernel
theorem dX6_findRing_0 : decode cX6_findRing 0 = .ok (.aload_n 0, 1) := by decide +kernel
theorem dX6_findRing_1 : decode cX6_findRing 1 = .ok (.getfield 20, 3) := by decide +kernel
theorem dX6_findRing_4 : decode cX6_findRing 4 = .ok (.iconst (-1), 1) := by decide +kernel
theorem dX6_findRing_5 : decode cX6_findRing 5 = .ok (.invokestatic 59, 3) := by decide +kernel
theorem dX6_findRing_8 : decode cX6_findRing 8 = .ok (.aload_n 0, 1) := by decide +kernel
theorem dX6_findRing_9 : decode cX6_findRing 9 = .ok (.getfield 23, 3) := by decide +kernel
theorem dX6_findRing_12 : decode cX6_findRing 12 = .ok (.iconst (-1), 1) := by decide +kernel
theorem dX6_findRing_13 : decode cX6_findRing 13 = .ok (.invokestatic 59, 3) := by decide +kernel
theorem dX6_findRing_16 : decode cX6_findRing 16 = .ok (.aload_n 0, 1) := by decide +kernel
theorem dX6_findRing_17 : decode cX6_findRing 17 = .ok (.getfield 23, 3) := by decide +kernel
theorem dX6_findRing_20 : decode cX6_findRing 20 = .ok (.iload_n 3, 1) := by decide +kernel
theorem dX6_findRing_21 : decode cX6_findRing 21 = .ok (.iload_n 2, 1) := by decide +kernel
theorem dX6_findRing_22 : decode cX6_findRing 22 = .ok (.iastore, 1) := by decide +kernel
theorem dX6_findRing_23 : decode cX6_findRing 23 = .ok (.aload_n 0, 1) := by decide +kernel
theorem dX6_findRing_24 : decode cX6_findRing 24 = .ok (.getfield 26, 3) := by decide +kernel
theorem dX6_findRing_27 : decode cX6_findRing 27 = .ok (.iconst 0, 1) := by decide +kernel
theorem dX6_findRing_28 : decode cX6_findRing 28 = .ok (.iload_n 3, 1) := by decide +kernel
theorem dX6_findRing_29 : decode cX6_findRing 29 = .ok (.iastore, 1) := by decide +kernel
theorem dX6_findRing_30 : decode cX6_findRing 30 = .ok (.iconst 1, 1) := by decide +kernel
theorem dX6_findRing_31 : decode cX6_findRing 31 = .ok (.istore 5, 2) := by decide +kernel
theorem dX6_findRing_33 : decode cX6_findRing 33 = .ok (.iconst 0, 1) := by decide +kernel
theorem dX6_findRing_34 : decode cX6_findRing 34 = .ok (.istore 6, 2) := by decide +kernel
theorem dX6_findRing_36 : decode cX6_findRing 36 = .ok (.iload 6, 2) := by decide +kernel
theorem dX6_findRing_38 : decode cX6_findRing 38 = .ok (.iload 5, 2) := by decide +kernel
theorem dX6_findRing_40 : decode cX6_findRing 40 = .ok (.if_icmp .ge 140, 3) := by decide +kernel
theorem dX6_findRing_43 : decode cX6_findRing 43 = .ok (.iload 6, 2) := by decide +kernel
theorem dX6_findRing_45 : decode cX6_findRing 45 = .ok (.bipush 10, 2) := by decide +kernel
theorem dX6_findRing_47 : decode cX6_findRing 47 = .ok (.if_icmp .ge 133, 3) := by decide +kernel
theorem dX6_findRing_50 : decode cX6_findRing 50 = .ok (.aload_n 0, 1) := by decide +kernel
theorem dX6_findRing_51 : decode cX6_findRing 51 = .ok (.getfield 26, 3) := by decide +kernel
theorem dX6_findRing_54 : decode cX6_findRing 54 = .ok (.iload 6, 2) := by decide +kernel
theorem dX6_findRing_56 : decode cX6_findRing 56 = .ok (.iaload, 1) := by decide +kernel
theorem dX6_findRing_57 : decode cX6_findRing 57 = .ok (.istore 7, 2) := by decide +kernel
theorem dX6_findRing_59 : decode cX6_findRing 59 = .ok (.iconst 0, 1) := by decide +kernel
theorem dX6_findRing_60 : decode cX6_findRing 60 = .ok (.istore 8, 2) := by decide +kernel
theorem dX6_findRing_62 : decode cX6_findRing 62 = .ok (.iload 8, 2) := by decide +kernel
theorem dX6_findRing_64 : decode cX6_findRing 64 = .ok (.aload_n 1, 1) := by decide +kernel
theorem dX6_findRing_65 : decode cX6_findRing 65 = .ok (.getfield 35, 3) := by decide +kernel
theorem dX6_findRing_68 : decode cX6_findRing 68 = .ok (.if_icmp .ge 94, 3) := by decide +kernel
theorem dX6_findRing_71 : decode cX6_findRing 71 = .ok (.iload 8, 2) := by decide +kernel
theorem dX6_findRing_73 : decode cX6_findRing 73 = .ok (.iload 7, 2) := by decide +kernel
theorem dX6_findRing_75 : decode cX6_findRing 75 = .ok (.invokestatic 93, 3) := by decide +kernel
theorem dX6_findRing_78 : decode cX6_findRing 78 = .ok (.iload 4, 2) := by decide +kernel
theorem dX6_findRing_80 : decode cX6_findRing 80 = .ok (.if_icmp .lt 22, 3) := by decide +kernel
theorem dX6_findRing_83 : decode cX6_findRing 83 = .ok (.iload 8, 2) := by decide +kernel
theorem dX6_findRing_85 : decode cX6_findRing 85 = .ok (.iload 7, 2) := by decide +kernel
theorem dX6_findRing_87 : decode cX6_findRing 87 = .ok (.invokestatic 93, 3) := by decide +kernel
theorem dX6_findRing_90 : decode cX6_findRing 90 = .ok (.iload_n 2, 1) := by decide +kernel
theorem dX6_findRing_91 : decode cX6_findRing 91 = .ok (.iload_n 3, 1) := by decide +kernel
theorem dX6_findRing_92 : decode cX6_findRing 92 = .ok (.invokestatic 93, 3) := by decide +kernel
theorem dX6_findRing_95 : decode cX6_findRing 95 = .ok (.if_icmp .eq 7, 3) := by decide +kernel
theorem dX6_findRing_98 : decode cX6_findRing 98 = .ok (.iconst 1, 1) := by decide +kernel
theorem dX6_findRing_99 : decode cX6_findRing 99 = .ok (.goto 4, 3) := by decide +kernel
theorem dX6_findRing_102 : decode cX6_findRing 102 = .ok (.iconst 0, 1) := by decide +kernel
theorem dX6_findRing_103 : decode cX6_findRing 103 = .ok (.istore 9, 2) := by decide +kernel
theorem dX6_findRing_105 : decode cX6_findRing 105 = .ok (.iload 9, 2) := by decide +kernel
theorem dX6_findRing_107 : decode cX6_findRing 107 = .ok (.ifCond .eq 49, 3) := by decide +kernel
theorem dX6_findRing_110 : decode cX6_findRing 110 = .ok (.aload_n 0, 1) := by decide +kernel
theorem dX6_findRing_111 : decode cX6_findRing 111 = .ok (.getfield 20, 3) := by decide +kernel
theorem dX6_findRing_114 : decode cX6_findRing 114 = .ok (.iload 8, 2) := by decide +kernel
theorem dX6_findRing_116 : decode cX6_findRing 116 = .ok (.iaload, 1) := by decide +kernel
theorem dX6_findRing_117 : decode cX6_findRing 117 = .ok (.iconst (-1), 1) := by decide +kernel
theorem dX6_findRing_118 : decode cX6_findRing 118 = .ok (.if_icmp .ne 38, 3) := by decide +kernel
theorem dX6_findRing_121 : decode cX6_findRing 121 = .ok (.aload_n 0, 1) := by decide +kernel
theorem dX6_findRing_122 : decode cX6_findRing 122 = .ok (.getfield 11, 3) := by decide +kernel
theorem dX6_findRing_125 : decode cX6_findRing 125 = .ok (.iload 8, 2) := by decide +kernel
theorem dX6_findRing_127 : decode cX6_findRing 127 = .ok (.aaload, 1) := by decide +kernel
theorem dX6_findRing_128 : decode cX6_findRing 128 = .ok (.iload 7, 2) := by decide +kernel
theorem dX6_findRing_130 : decode cX6_findRing 130 = .ok (.iaload, 1) := by decide +kernel
theorem dX6_findRing_131 : decode cX6_findRing 131 = .ok (.ifCond .le 25, 3) := by decide +kernel
theorem dX6_findRing_134 : decode cX6_findRing 134 = .ok (.aload_n 0, 1) := by decide +kernel
theorem dX6_findRing_135 : decode cX6_findRing 135 = .ok (.getfield 20, 3) := by decide +kernel
theorem dX6_findRing_138 : decode cX6_findRing 138 = .ok (.iload 8, 2) := by decide +kernel
theorem dX6_findRing_140 : decode cX6_findRing 140 = .ok (.iload 7, 2) := by decide +kernel
theorem dX6_findRing_142 : decode cX6_findRing 142 = .ok (.iastore, 1) := by decide +kernel
theorem dX6_findRing_143 : decode cX6_findRing 143 = .ok (.aload_n 0, 1) := by decide +kernel
theorem dX6_findRing_144 : decode cX6_findRing 144 = .ok (.aload_n 1, 1) := by decide +kernel
theorem dX6_findRing_145 : decode cX6_findRing 145 = .ok (.iload 8, 2) := by decide +kernel
theorem dX6_findRing_147 : decode cX6_findRing 147 = .ok (.iload 5, 2) := by decide +kernel
theorem dX6_findRing_149 : decode cX6_findRing 149 = .ok (.iload 4, 2) := by decide +kernel
theorem dX6_findRing_151 : decode cX6_findRing 151 = .ok (.invokevirtual 104, 3) := by decide +kernel
theorem dX6_findRing_154 : decode cX6_findRing 154 = .ok (.istore 5, 2) := by decide +kernel
theorem dX6_findRing_156 : decode cX6_findRing 156 = .ok (.iinc 8 1, 3) := by decide +kernel
theorem dX6_findRing_159 : decode cX6_findRing 159 = .ok (.goto (-97), 3) := by decide +kernel
theorem dX6_findRing_162 : decode cX6_findRing 162 = .ok (.aload_n 0, 1) := by decide +kernel
theorem dX6_findRing_163 : decode cX6_findRing 163 = .ok (.getfield 20, 3) := by decide +kernel
theorem dX6_findRing_166 : decode cX6_findRing 166 = .ok (.iload_n 2, 1) := by decide +kernel
theorem dX6_findRing_167 : decode cX6_findRing 167 = .ok (.iaload, 1) := by decide +kernel
theorem dX6_findRing_168 : decode cX6_findRing 168 = .ok (.iconst (-1), 1) := by decide +kernel
theorem dX6_findRing_169 : decode cX6_findRing 169 = .ok (.if_icmp .eq 5, 3) := by decide +kernel
theorem dX6_findRing_172 : decode cX6_findRing 172 = .ok (.iconst 1, 1) := by decide +kernel
theorem dX6_findRing_173 : decode cX6_findRing 173 = .ok (.ireturn, 1) := by decide +kernel
theorem dX6_findRing_174 : decode cX6_findRing 174 = .ok (.iinc 6 1, 3) := by decide +kernel
theorem dX6_findRing_177 : decode cX6_findRing 177 = .ok (.goto (-141), 3) := by decide +kernel
theorem dX6_findRing_180 : decode cX6_findRing 180 = .ok (.iconst 0, 1) := by decide +kernel
theorem dX6_findRing_181 : decode cX6_findRing 181 = .ok (.ireturn, 1) := by decide +kernel
theorem dX6_reachColumns_0 : decode cX6_reachColumns 0 = .ok (.iload_n 3, 1) := by decide +kernel
theorem dX6_reachColumns_1 : decode cX6_reachColumns 1 = .ok (.istore 5, 2) := by decide +kernel
theorem dX6_reachColumns_3 : decode cX6_reachColumns 3 = .ok (.iconst 0, 1) := by decide +kernel
theorem dX6_reachColumns_4 : decode cX6_reachColumns 4 = .ok (.istore 6, 2) := by decide +kernel
theorem dX6_reachColumns_6 : decode cX6_reachColumns 6 = .ok (.iload 6, 2) := by decide +kernel
theorem dX6_reachColumns_8 : decode cX6_reachColumns 8 = .ok (.aload_n 1, 1) := by decide +kernel
theorem dX6_reachColumns_9 : decode cX6_reachColumns 9 = .ok (.getfield 35, 3) := by decide +kernel
theorem dX6_reachColumns_12 : decode cX6_reachColumns 12 = .ok (.if_icmp .ge 69, 3) := by decide +kernel
theorem dX6_reachColumns_15 : decode cX6_reachColumns 15 = .ok (.aload_n 0, 1) := by decide +kernel
theorem dX6_reachColumns_16 : decode cX6_reachColumns 16 = .ok (.getfield 23, 3) := by decide +kernel
theorem dX6_reachColumns_19 : decode cX6_reachColumns 19 = .ok (.iload 6, 2) := by decide +kernel
theorem dX6_reachColumns_21 : decode cX6_reachColumns 21 = .ok (.iaload, 1) := by decide +kernel
theorem dX6_reachColumns_22 : decode cX6_reachColumns 22 = .ok (.iconst (-1), 1) := by decide +kernel
theorem dX6_reachColumns_23 : decode cX6_reachColumns 23 = .ok (.if_icmp .ne 52, 3) := by decide +kernel
theorem dX6_reachColumns_26 : decode cX6_reachColumns 26 = .ok (.iload_n 2, 1) := by decide +kernel
theorem dX6_reachColumns_27 : decode cX6_reachColumns 27 = .ok (.iload 6, 2) := by decide +kernel
theorem dX6_reachColumns_29 : decode cX6_reachColumns 29 = .ok (.invokestatic 93, 3) := by decide +kernel
theorem dX6_reachColumns_32 : decode cX6_reachColumns 32 = .ok (.iload 4, 2) := by decide +kernel
theorem dX6_reachColumns_34 : decode cX6_reachColumns 34 = .ok (.if_icmp .lt 41, 3) := by decide +kernel
theorem dX6_reachColumns_37 : decode cX6_reachColumns 37 = .ok (.aload_n 0, 1) := by decide +kernel
theorem dX6_reachColumns_38 : decode cX6_reachColumns 38 = .ok (.aload_n 1, 1) := by decide +kernel
theorem dX6_reachColumns_39 : decode cX6_reachColumns 39 = .ok (.iload_n 2, 1) := by decide +kernel
theorem dX6_reachColumns_40 : decode cX6_reachColumns 40 = .ok (.iload 6, 2) := by decide +kernel
theorem dX6_reachColumns_42 : decode cX6_reachColumns 42 = .ok (.invokevirtual 89, 3) := by decide +kernel
theorem dX6_reachColumns_45 : decode cX6_reachColumns 45 = .ok (.ifCond .eq 30, 3) := by decide +kernel
theorem dX6_reachColumns_48 : decode cX6_reachColumns 48 = .ok (.aload_n 0, 1) := by decide +kernel
theorem dX6_reachColumns_49 : decode cX6_reachColumns 49 = .ok (.getfield 23, 3) := by decide +kernel
theorem dX6_reachColumns_52 : decode cX6_reachColumns 52 = .ok (.iload 6, 2) := by decide +kernel
theorem dX6_reachColumns_54 : decode cX6_reachColumns 54 = .ok (.iload_n 2, 1) := by decide +kernel
theorem dX6_reachColumns_55 : decode cX6_reachColumns 55 = .ok (.iastore, 1) := by decide +kernel
theorem dX6_reachColumns_56 : decode cX6_reachColumns 56 = .ok (.iload 5, 2) := by decide +kernel
theorem dX6_reachColumns_58 : decode cX6_reachColumns 58 = .ok (.bipush 10, 2) := by decide +kernel
theorem dX6_reachColumns_60 : decode cX6_reachColumns 60 = .ok (.if_icmp .ge 15, 3) := by decide +kernel
theorem dX6_reachColumns_63 : decode cX6_reachColumns 63 = .ok (.aload_n 0, 1) := by decide +kernel
theorem dX6_reachColumns_64 : decode cX6_reachColumns 64 = .ok (.getfield 26, 3) := by decide +kernel
theorem dX6_reachColumns_67 : decode cX6_reachColumns 67 = .ok (.iload 5, 2) := by decide +kernel
theorem dX6_reachColumns_69 : decode cX6_reachColumns 69 = .ok (.iload 6, 2) := by decide +kernel
theorem dX6_reachColumns_71 : decode cX6_reachColumns 71 = .ok (.iastore, 1) := by decide +kernel
theorem dX6_reachColumns_72 : decode cX6_reachColumns 72 = .ok (.iinc 5 1, 3) := by decide +kernel
theorem dX6_reachColumns_75 : decode cX6_reachColumns 75 = .ok (.iinc 6 1, 3) := by decide +kernel
theorem dX6_reachColumns_78 : decode cX6_reachColumns 78 = .ok (.goto (-72), 3) := by decide +kernel
theorem dX6_reachColumns_81 : decode cX6_reachColumns 81 = .ok (.iload 5, 2) := by decide +kernel
theorem dX6_reachColumns_83 : decode cX6_reachColumns 83 = .ok (.ireturn, 1) := by decide +kernel
theorem dX6_turnRing_0 : decode cX6_turnRing 0 = .ok (.aload_n 0, 1) := by decide +kernel
theorem dX6_turnRing_1 : decode cX6_turnRing 1 = .ok (.iload_n 1, 1) := by decide +kernel
theorem dX6_turnRing_2 : decode cX6_turnRing 2 = .ok (.iload_n 2, 1) := by decide +kernel
theorem dX6_turnRing_3 : decode cX6_turnRing 3 = .ok (.invokevirtual 108, 3) := by decide +kernel
theorem dX6_turnRing_6 : decode cX6_turnRing 6 = .ok (.istore_n 3, 1) := by decide +kernel
theorem dX6_turnRing_7 : decode cX6_turnRing 7 = .ok (.iload_n 1, 1) := by decide +kernel
theorem dX6_turnRing_8 : decode cX6_turnRing 8 = .ok (.istore 4, 2) := by decide +kernel
theorem dX6_turnRing_10 : decode cX6_turnRing 10 = .ok (.aload_n 0, 1) := by decide +kernel
theorem dX6_turnRing_11 : decode cX6_turnRing 11 = .ok (.getfield 20, 3) := by decide +kernel
theorem dX6_turnRing_14 : decode cX6_turnRing 14 = .ok (.iload_n 1, 1) := by decide +kernel
theorem dX6_turnRing_15 : decode cX6_turnRing 15 = .ok (.iaload, 1) := by decide +kernel
theorem dX6_turnRing_16 : decode cX6_turnRing 16 = .ok (.istore 5, 2) := by decide +kernel
theorem dX6_turnRing_18 : decode cX6_turnRing 18 = .ok (.iconst 0, 1) := by decide +kernel
theorem dX6_turnRing_19 : decode cX6_turnRing 19 = .ok (.istore 6, 2) := by decide +kernel
theorem dX6_turnRing_21 : decode cX6_turnRing 21 = .ok (.iload 6, 2) := by decide +kernel
theorem dX6_turnRing_23 : decode cX6_turnRing 23 = .ok (.bipush 10, 2) := by decide +kernel
theorem dX6_turnRing_25 : decode cX6_turnRing 25 = .ok (.if_icmp .ge 71, 3) := by decide +kernel
theorem dX6_turnRing_28 : decode cX6_turnRing 28 = .ok (.iload 5, 2) := by decide +kernel
theorem dX6_turnRing_30 : decode cX6_turnRing 30 = .ok (.iconst (-1), 1) := by decide +kernel
theorem dX6_turnRing_31 : decode cX6_turnRing 31 = .ok (.if_icmp .eq 65, 3) := by decide +kernel
theorem dX6_turnRing_34 : decode cX6_turnRing 34 = .ok (.aload_n 0, 1) := by decide +kernel
theorem dX6_turnRing_35 : decode cX6_turnRing 35 = .ok (.getfield 11, 3) := by decide +kernel
theorem dX6_turnRing_38 : decode cX6_turnRing 38 = .ok (.iload 4, 2) := by decide +kernel
theorem dX6_turnRing_40 : decode cX6_turnRing 40 = .ok (.aaload, 1) := by decide +kernel
theorem dX6_turnRing_41 : decode cX6_turnRing 41 = .ok (.iload 5, 2) := by decide +kernel
theorem dX6_turnRing_43 : decode cX6_turnRing 43 = .ok (.dup2, 1) := by decide +kernel
theorem dX6_turnRing_44 : decode cX6_turnRing 44 = .ok (.iaload, 1) := by decide +kernel
theorem dX6_turnRing_45 : decode cX6_turnRing 45 = .ok (.iload_n 3, 1) := by decide +kernel
theorem dX6_turnRing_46 : decode cX6_turnRing 46 = .ok (.isub, 1) := by decide +kernel
theorem dX6_turnRing_47 : decode cX6_turnRing 47 = .ok (.iastore, 1) := by decide +kernel
theorem dX6_turnRing_48 : decode cX6_turnRing 48 = .ok (.aload_n 0, 1) := by decide +kernel
theorem dX6_turnRing_49 : decode cX6_turnRing 49 = .ok (.getfield 23, 3) := by decide +kernel
theorem dX6_turnRing_52 : decode cX6_turnRing 52 = .ok (.iload 5, 2) := by decide +kernel
theorem dX6_turnRing_54 : decode cX6_turnRing 54 = .ok (.iaload, 1) := by decide +kernel
theorem dX6_turnRing_55 : decode cX6_turnRing 55 = .ok (.istore 4, 2) := by decide +kernel
theorem dX6_turnRing_57 : decode cX6_turnRing 57 = .ok (.aload_n 0, 1) := by decide +kernel
theorem dX6_turnRing_58 : decode cX6_turnRing 58 = .ok (.getfield 11, 3) := by decide +kernel
theorem dX6_turnRing_61 : decode cX6_turnRing 61 = .ok (.iload 4, 2) := by decide +kernel
theorem dX6_turnRing_63 : decode cX6_turnRing 63 = .ok (.aaload, 1) := by decide +kernel
theorem dX6_turnRing_64 : decode cX6_turnRing 64 = .ok (.iload 5, 2) := by decide +kernel
theorem dX6_turnRing_66 : decode cX6_turnRing 66 = .ok (.dup2, 1) := by decide +kernel
theorem dX6_turnRing_67 : decode cX6_turnRing 67 = .ok (.iaload, 1) := by decide +kernel
theorem dX6_turnRing_68 : decode cX6_turnRing 68 = .ok (.iload_n 3, 1) := by decide +kernel
theorem dX6_turnRing_69 : decode cX6_turnRing 69 = .ok (.iadd, 1) := by decide +kernel
theorem dX6_turnRing_70 : decode cX6_turnRing 70 = .ok (.iastore, 1) := by decide +kernel
theorem dX6_turnRing_71 : decode cX6_turnRing 71 = .ok (.iload 5, 2) := by decide +kernel
theorem dX6_turnRing_73 : decode cX6_turnRing 73 = .ok (.iload_n 2, 1) := by decide +kernel
theorem dX6_turnRing_74 : decode cX6_turnRing 74 = .ok (.if_icmp .ne 7, 3) := by decide +kernel
theorem dX6_turnRing_77 : decode cX6_turnRing 77 = .ok (.iconst (-1), 1) := by decide +kernel
theorem dX6_turnRing_78 : decode cX6_turnRing 78 = .ok (.goto 10, 3) := by decide +kernel
theorem dX6_turnRing_81 : decode cX6_turnRing 81 = .ok (.aload_n 0, 1) := by decide +kernel
theorem dX6_turnRing_82 : decode cX6_turnRing 82 = .ok (.getfield 20, 3) := by decide +kernel
theorem dX6_turnRing_85 : decode cX6_turnRing 85 = .ok (.iload 4, 2) := by decide +kernel
theorem dX6_turnRing_87 : decode cX6_turnRing 87 = .ok (.iaload, 1) := by decide +kernel
theorem dX6_turnRing_88 : decode cX6_turnRing 88 = .ok (.istore 5, 2) := by decide +kernel
theorem dX6_turnRing_90 : decode cX6_turnRing 90 = .ok (.iinc 6 1, 3) := by decide +kernel
theorem dX6_turnRing_93 : decode cX6_turnRing 93 = .ok (.goto (-72), 3) := by decide +kernel
theorem dX6_turnRing_96 : decode cX6_turnRing 96 = .ok (.return_, 1) := by decide +kernel
theorem dX6_ringAmount_0 : decode cX6_ringAmount 0 = .ok (.sipush 1000, 3) := by decide +kernel
theorem dX6_ringAmount_3 : decode cX6_ringAmount 3 = .ok (.istore_n 3, 1) := by decide +kernel
theorem dX6_ringAmount_4 : decode cX6_ringAmount 4 = .ok (.iload_n 1, 1) := by decide +kernel
theorem dX6_ringAmount_5 : decode cX6_ringAmount 5 = .ok (.istore 4, 2) := by decide +kernel
theorem dX6_ringAmount_7 : decode cX6_ringAmount 7 = .ok (.aload_n 0, 1) := by decide +kernel
theorem dX6_ringAmount_8 : decode cX6_ringAmount 8 = .ok (.getfield 20, 3) := by decide +kernel
theorem dX6_ringAmount_11 : decode cX6_ringAmount 11 = .ok (.iload_n 1, 1) := by decide +kernel
theorem dX6_ringAmount_12 : decode cX6_ringAmount 12 = .ok (.iaload, 1) := by decide +kernel
theorem dX6_ringAmount_13 : decode cX6_ringAmount 13 = .ok (.istore 5, 2) := by decide +kernel
theorem dX6_ringAmount_15 : decode cX6_ringAmount 15 = .ok (.iconst 0, 1) := by decide +kernel
theorem dX6_ringAmount_16 : decode cX6_ringAmount 16 = .ok (.istore 6, 2) := by decide +kernel
theorem dX6_ringAmount_18 : decode cX6_ringAmount 18 = .ok (.iload 6, 2) := by decide +kernel
theorem dX6_ringAmount_20 : decode cX6_ringAmount 20 = .ok (.bipush 10, 2) := by decide +kernel
theorem dX6_ringAmount_22 : decode cX6_ringAmount 22 = .ok (.if_icmp .ge 58, 3) := by decide +kernel
theorem dX6_ringAmount_25 : decode cX6_ringAmount 25 = .ok (.iload 5, 2) := by decide +kernel
theorem dX6_ringAmount_27 : decode cX6_ringAmount 27 = .ok (.iconst (-1), 1) := by decide +kernel
theorem dX6_ringAmount_28 : decode cX6_ringAmount 28 = .ok (.if_icmp .eq 52, 3) := by decide +kernel
theorem dX6_ringAmount_31 : decode cX6_ringAmount 31 = .ok (.iload_n 3, 1) := by decide +kernel
theorem dX6_ringAmount_32 : decode cX6_ringAmount 32 = .ok (.aload_n 0, 1) := by decide +kernel
theorem dX6_ringAmount_33 : decode cX6_ringAmount 33 = .ok (.getfield 11, 3) := by decide +kernel
theorem dX6_ringAmount_36 : decode cX6_ringAmount 36 = .ok (.iload 4, 2) := by decide +kernel
theorem dX6_ringAmount_38 : decode cX6_ringAmount 38 = .ok (.aaload, 1) := by decide +kernel
theorem dX6_ringAmount_39 : decode cX6_ringAmount 39 = .ok (.iload 5, 2) := by decide +kernel
theorem dX6_ringAmount_41 : decode cX6_ringAmount 41 = .ok (.iaload, 1) := by decide +kernel
theorem dX6_ringAmount_42 : decode cX6_ringAmount 42 = .ok (.invokestatic 65, 3) := by decide +kernel
theorem dX6_ringAmount_45 : decode cX6_ringAmount 45 = .ok (.istore_n 3, 1) := by decide +kernel
theorem dX6_ringAmount_46 : decode cX6_ringAmount 46 = .ok (.aload_n 0, 1) := by decide +kernel
theorem dX6_ringAmount_47 : decode cX6_ringAmount 47 = .ok (.getfield 23, 3) := by decide +kernel
theorem dX6_ringAmount_50 : decode cX6_ringAmount 50 = .ok (.iload 5, 2) := by decide +kernel
theorem dX6_ringAmount_52 : decode cX6_ringAmount 52 = .ok (.iaload, 1) := by decide +kernel
theorem dX6_ringAmount_53 : decode cX6_ringAmount 53 = .ok (.istore 4, 2) := by decide +kernel
theorem dX6_ringAmount_55 : decode cX6_ringAmount 55 = .ok (.iload 5, 2) := by decide +kernel
theorem dX6_ringAmount_57 : decode cX6_ringAmount 57 = .ok (.iload_n 2, 1) := by decide +kernel
theorem dX6_ringAmount_58 : decode cX6_ringAmount 58 = .ok (.if_icmp .ne 7, 3) := by decide +kernel
theorem dX6_ringAmount_61 : decode cX6_ringAmount 61 = .ok (.iconst (-1), 1) := by decide +kernel
theorem dX6_ringAmount_62 : decode cX6_ringAmount 62 = .ok (.goto 10, 3) := by decide +kernel
theorem dX6_ringAmount_65 : decode cX6_ringAmount 65 = .ok (.aload_n 0, 1) := by decide +kernel
theorem dX6_ringAmount_66 : decode cX6_ringAmount 66 = .ok (.getfield 20, 3) := by decide +kernel
theorem dX6_ringAmount_69 : decode cX6_ringAmount 69 = .ok (.iload 4, 2) := by decide +kernel
theorem dX6_ringAmount_71 : decode cX6_ringAmount 71 = .ok (.iaload, 1) := by decide +kernel
theorem dX6_ringAmount_72 : decode cX6_ringAmount 72 = .ok (.istore 5, 2) := by decide +kernel
theorem dX6_ringAmount_74 : decode cX6_ringAmount 74 = .ok (.iinc 6 1, 3) := by decide +kernel
theorem dX6_ringAmount_77 : decode cX6_ringAmount 77 = .ok (.goto (-59), 3) := by decide +kernel
theorem dX6_ringAmount_80 : decode cX6_ringAmount 80 = .ok (.iload_n 3, 1) := by decide +kernel
theorem dX6_ringAmount_81 : decode cX6_ringAmount 81 = .ok (.ireturn, 1) := by decide +kernel
theorem dX6_carried_0 : decode cX6_carried 0 = .ok (.iconst 0, 1) := by decide +kernel
theorem dX6_carried_1 : decode cX6_carried 1 = .ok (.istore 4, 2) := by decide +kernel
theorem dX6_carried_3 : decode cX6_carried 3 = .ok (.iconst 0, 1) := by decide +kernel
theorem dX6_carried_4 : decode cX6_carried 4 = .ok (.istore 5, 2) := by decide +kernel
theorem dX6_carried_6 : decode cX6_carried 6 = .ok (.iload 5, 2) := by decide +kernel
theorem dX6_carried_8 : decode cX6_carried 8 = .ok (.aload_n 1, 1) := by decide +kernel
theorem dX6_carried_9 : decode cX6_carried 9 = .ok (.getfield 35, 3) := by decide +kernel
theorem dX6_carried_12 : decode cX6_carried 12 = .ok (.if_icmp .ge 78, 3) := by decide +kernel
theorem dX6_carried_15 : decode cX6_carried 15 = .ok (.iconst 0, 1) := by decide +kernel
theorem dX6_carried_16 : decode cX6_carried 16 = .ok (.istore 6, 2) := by decide +kernel
theorem dX6_carried_18 : decode cX6_carried 18 = .ok (.iload 6, 2) := by decide +kernel
theorem dX6_carried_20 : decode cX6_carried 20 = .ok (.aload_n 1, 1) := by decide +kernel
theorem dX6_carried_21 : decode cX6_carried 21 = .ok (.getfield 35, 3) := by decide +kernel
theorem dX6_carried_24 : decode cX6_carried 24 = .ok (.if_icmp .ge 60, 3) := by decide +kernel
theorem dX6_carried_27 : decode cX6_carried 27 = .ok (.aload_n 0, 1) := by decide +kernel
theorem dX6_carried_28 : decode cX6_carried 28 = .ok (.getfield 11, 3) := by decide +kernel
theorem dX6_carried_31 : decode cX6_carried 31 = .ok (.iload 5, 2) := by decide +kernel
theorem dX6_carried_33 : decode cX6_carried 33 = .ok (.aaload, 1) := by decide +kernel
theorem dX6_carried_34 : decode cX6_carried 34 = .ok (.iload 6, 2) := by decide +kernel
theorem dX6_carried_36 : decode cX6_carried 36 = .ok (.iaload, 1) := by decide +kernel
theorem dX6_carried_37 : decode cX6_carried 37 = .ok (.ifCond .le 41, 3) := by decide +kernel
theorem dX6_carried_40 : decode cX6_carried 40 = .ok (.aload_n 1, 1) := by decide +kernel
theorem dX6_carried_41 : decode cX6_carried 41 = .ok (.iload_n 2, 1) := by decide +kernel
theorem dX6_carried_42 : decode cX6_carried 42 = .ok (.iload 6, 2) := by decide +kernel
theorem dX6_carried_44 : decode cX6_carried 44 = .ok (.invokevirtual 111, 3) := by decide +kernel
theorem dX6_carried_47 : decode cX6_carried 47 = .ok (.iload_n 3, 1) := by decide +kernel
theorem dX6_carried_48 : decode cX6_carried 48 = .ok (.if_icmp .ne 30, 3) := by decide +kernel
theorem dX6_carried_51 : decode cX6_carried 51 = .ok (.aload_n 1, 1) := by decide +kernel
theorem dX6_carried_52 : decode cX6_carried 52 = .ok (.iload 5, 2) := by decide +kernel
theorem dX6_carried_54 : decode cX6_carried 54 = .ok (.iload 6, 2) := by decide +kernel
theorem dX6_carried_56 : decode cX6_carried 56 = .ok (.iload_n 2, 1) := by decide +kernel
theorem dX6_carried_57 : decode cX6_carried 57 = .ok (.invokestatic 114, 3) := by decide +kernel
theorem dX6_carried_60 : decode cX6_carried 60 = .ok (.ifCond .eq 18, 3) := by decide +kernel
theorem dX6_carried_63 : decode cX6_carried 63 = .ok (.iload 4, 2) := by decide +kernel
theorem dX6_carried_65 : decode cX6_carried 65 = .ok (.aload_n 0, 1) := by decide +kernel
theorem dX6_carried_66 : decode cX6_carried 66 = .ok (.getfield 11, 3) := by decide +kernel
theorem dX6_carried_69 : decode cX6_carried 69 = .ok (.iload 5, 2) := by decide +kernel
theorem dX6_carried_71 : decode cX6_carried 71 = .ok (.aaload, 1) := by decide +kernel
theorem dX6_carried_72 : decode cX6_carried 72 = .ok (.iload 6, 2) := by decide +kernel
theorem dX6_carried_74 : decode cX6_carried 74 = .ok (.iaload, 1) := by decide +kernel
theorem dX6_carried_75 : decode cX6_carried 75 = .ok (.iadd, 1) := by decide +kernel
theorem dX6_carried_76 : decode cX6_carried 76 = .ok (.istore 4, 2) := by decide +kernel
theorem dX6_carried_78 : decode cX6_carried 78 = .ok (.iinc 6 1, 3) := by decide +kernel
theorem dX6_carried_81 : decode cX6_carried 81 = .ok (.goto (-63), 3) := by decide +kernel
theorem dX6_carried_84 : decode cX6_carried 84 = .ok (.iinc 5 1, 3) := by decide +kernel
theorem dX6_carried_87 : decode cX6_carried 87 = .ok (.goto (-81), 3) := by decide +kernel
theorem dX6_carried_90 : decode cX6_carried 90 = .ok (.iload 4, 2) := by decide +kernel
theorem dX6_carried_92 : decode cX6_carried 92 = .ok (.ireturn, 1) := by decide +kernel
theorem dX6_passes_0 : decode cX6_passes 0 = .ok (.iload_n 1, 1) := by decide +kernel
theorem dX6_passes_1 : decode cX6_passes 1 = .ok (.istore 4, 2) := by decide +kernel
theorem dX6_passes_3 : decode cX6_passes 3 = .ok (.iconst 0, 1) := by decide +kernel
theorem dX6_passes_4 : decode cX6_passes 4 = .ok (.istore 5, 2) := by decide +kernel
theorem dX6_passes_6 : decode cX6_passes 6 = .ok (.iload 5, 2) := by decide +kernel
theorem dX6_passes_8 : decode cX6_passes 8 = .ok (.bipush 10, 2) := by decide +kernel
theorem dX6_passes_10 : decode cX6_passes 10 = .ok (.if_icmp .ge 32, 3) := by decide +kernel
theorem dX6_passes_13 : decode cX6_passes 13 = .ok (.iload 4, 2) := by decide +kernel
theorem dX6_passes_15 : decode cX6_passes 15 = .ok (.iconst (-1), 1) := by decide +kernel
theorem dX6_passes_16 : decode cX6_passes 16 = .ok (.if_icmp .eq 26, 3) := by decide +kernel
theorem dX6_passes_19 : decode cX6_passes 19 = .ok (.iload 4, 2) := by decide +kernel
theorem dX6_passes_21 : decode cX6_passes 21 = .ok (.iload_n 3, 1) := by decide +kernel
theorem dX6_passes_22 : decode cX6_passes 22 = .ok (.if_icmp .ne 5, 3) := by decide +kernel
theorem dX6_passes_25 : decode cX6_passes 25 = .ok (.iconst 1, 1) := by decide +kernel
theorem dX6_passes_26 : decode cX6_passes 26 = .ok (.ireturn, 1) := by decide +kernel
theorem dX6_passes_27 : decode cX6_passes 27 = .ok (.aload_n 0, 1) := by decide +kernel
theorem dX6_passes_28 : decode cX6_passes 28 = .ok (.iload 4, 2) := by decide +kernel
theorem dX6_passes_30 : decode cX6_passes 30 = .ok (.iload_n 2, 1) := by decide +kernel
theorem dX6_passes_31 : decode cX6_passes 31 = .ok (.invokevirtual 111, 3) := by decide +kernel
theorem dX6_passes_34 : decode cX6_passes 34 = .ok (.istore 4, 2) := by decide +kernel
theorem dX6_passes_36 : decode cX6_passes 36 = .ok (.iinc 5 1, 3) := by decide +kernel
theorem dX6_passes_39 : decode cX6_passes 39 = .ok (.goto (-33), 3) := by decide +kernel
theorem dX6_passes_42 : decode cX6_passes 42 = .ok (.iconst 0, 1) := by decide +kernel
theorem dX6_passes_43 : decode cX6_passes 43 = .ok (.ireturn, 1) := by decide +kernel
theorem dX7_init_0 : decode cX7_init 0 = .ok (.aload_n 0, 1) := by decide +kernel
theorem dX7_init_1 : decode cX7_init 1 = .ok (.invokespecial 3, 3) := by decide +kernel
theorem dX7_init_4 : decode cX7_init 4 = .ok (.aload_n 0, 1) := by decide +kernel
theorem dX7_init_5 : decode cX7_init 5 = .ok (.bipush 10, 2) := by decide +kernel
theorem dX7_init_7 : decode cX7_init 7 = .ok (.newarray .int, 2) := by decide +kernel
theorem dX7_init_9 : decode cX7_init 9 = .ok (.putfield 9, 3) := by decide +kernel
theorem dX7_init_12 : decode cX7_init 12 = .ok (.aload_n 0, 1) := by decide +kernel
theorem dX7_init_13 : decode cX7_init 13 = .ok (.new 15, 3) := by decide +kernel
theorem dX7_init_16 : decode cX7_init 16 = .ok (.dup, 1) := by decide +kernel
theorem dX7_init_17 : decode cX7_init 17 = .ok (.invokespecial 17, 3) := by decide +kernel
theorem dX7_init_20 : decode cX7_init 20 = .ok (.putfield 18, 3) := by decide +kernel
theorem dX7_init_23 : decode cX7_init 23 = .ok (.return_, 1) := by decide +kernel
theorem dX7_make_0 : decode cX7_make 0 = .ok (.aload_n 0, 1) := by decide +kernel
theorem dX7_make_1 : decode cX7_make 1 = .ok (.aload_n 1, 1) := by decide +kernel
theorem dX7_make_2 : decode cX7_make 2 = .ok (.getfield 22, 3) := by decide +kernel
theorem dX7_make_5 : decode cX7_make 5 = .ok (.aload_n 2, 1) := by decide +kernel
theorem dX7_make_6 : decode cX7_make 6 = .ok (.aload_n 3, 1) := by decide +kernel
theorem dX7_make_7 : decode cX7_make 7 = .ok (.invokevirtual 28, 3) := by decide +kernel
theorem dX7_make_10 : decode cX7_make 10 = .ok (.aload_n 0, 1) := by decide +kernel
theorem dX7_make_11 : decode cX7_make 11 = .ok (.getfield 9, 3) := by decide +kernel
theorem dX7_make_14 : decode cX7_make 14 = .ok (.iconst 0, 1) := by decide +kernel
theorem dX7_make_15 : decode cX7_make 15 = .ok (.invokestatic 32, 3) := by decide +kernel
theorem dX7_make_18 : decode cX7_make 18 = .ok (.aload_n 0, 1) := by decide +kernel
theorem dX7_make_19 : decode cX7_make 19 = .ok (.iconst 0, 1) := by decide +kernel
theorem dX7_make_20 : decode cX7_make 20 = .ok (.putfield 38, 3) := by decide +kernel
theorem dX7_make_23 : decode cX7_make 23 = .ok (.aload_n 0, 1) := by decide +kernel
theorem dX7_make_24 : decode cX7_make 24 = .ok (.aload_n 1, 1) := by decide +kernel
theorem dX7_make_25 : decode cX7_make 25 = .ok (.aload_n 2, 1) := by decide +kernel
theorem dX7_make_26 : decode cX7_make 26 = .ok (.aload_n 3, 1) := by decide +kernel
theorem dX7_make_27 : decode cX7_make 27 = .ok (.invokevirtual 41, 3) := by decide +kernel
theorem dX7_make_30 : decode cX7_make 30 = .ok (.aload_n 0, 1) := by decide +kernel
theorem dX7_make_31 : decode cX7_make 31 = .ok (.getfield 18, 3) := by decide +kernel
theorem dX7_make_34 : decode cX7_make 34 = .ok (.iload 4, 2) := by decide +kernel
theorem dX7_make_36 : decode cX7_make 36 = .ok (.invokevirtual 45, 3) := by decide +kernel
theorem dX7_make_39 : decode cX7_make 39 = .ok (.iconst 0, 1) := by decide +kernel
theorem dX7_make_40 : decode cX7_make 40 = .ok (.istore 5, 2) := by decide +kernel
theorem dX7_make_42 : decode cX7_make 42 = .ok (.iload 5, 2) := by decide +kernel
theorem dX7_make_44 : decode cX7_make 44 = .ok (.bipush 100, 2) := by decide +kernel
theorem dX7_make_46 : decode cX7_make 46 = .ok (.if_icmp .ge 57, 3) := by decide +kernel
theorem dX7_make_49 : decode cX7_make 49 = .ok (.aload_n 0, 1) := by decide +kernel
theorem dX7_make_50 : decode cX7_make 50 = .ok (.getfield 18, 3) := by decide +kernel
theorem dX7_make_53 : decode cX7_make 53 = .ok (.getfield 49, 3) := by decide +kernel
theorem dX7_make_56 : decode cX7_make 56 = .ok (.iload 4, 2) := by decide +kernel
theorem dX7_make_58 : decode cX7_make 58 = .ok (.if_icmp .ge 45, 3) := by decide +kernel
theorem dX7_make_61 : decode cX7_make 61 = .ok (.aload_n 0, 1) := by decide +kernel
theorem dX7_make_62 : decode cX7_make 62 = .ok (.aload_n 1, 1) := by decide +kernel
theorem dX7_make_63 : decode cX7_make 63 = .ok (.getfield 22, 3) := by decide +kernel
theorem dX7_make_66 : decode cX7_make 66 = .ok (.invokevirtual 52, 3) := by decide +kernel
theorem dX7_make_69 : decode cX7_make 69 = .ok (.aload_n 0, 1) := by decide +kernel
theorem dX7_make_70 : decode cX7_make 70 = .ok (.aload_n 1, 1) := by decide +kernel
theorem dX7_make_71 : decode cX7_make 71 = .ok (.aload_n 0, 1) := by decide +kernel
theorem dX7_make_72 : decode cX7_make 72 = .ok (.getfield 38, 3) := by decide +kernel
theorem dX7_make_75 : decode cX7_make 75 = .ok (.invokestatic 55, 3) := by decide +kernel
theorem dX7_make_78 : decode cX7_make 78 = .ok (.putfield 38, 3) := by decide +kernel
theorem dX7_make_81 : decode cX7_make 81 = .ok (.aload_n 0, 1) := by decide +kernel
theorem dX7_make_82 : decode cX7_make 82 = .ok (.aload_n 1, 1) := by decide +kernel
theorem dX7_make_83 : decode cX7_make 83 = .ok (.aload_n 2, 1) := by decide +kernel
theorem dX7_make_84 : decode cX7_make 84 = .ok (.aload_n 3, 1) := by decide +kernel
theorem dX7_make_85 : decode cX7_make 85 = .ok (.invokevirtual 41, 3) := by decide +kernel
theorem dX7_make_88 : decode cX7_make 88 = .ok (.aload_n 0, 1) := by decide +kernel
theorem dX7_make_89 : decode cX7_make 89 = .ok (.getfield 18, 3) := by decide +kernel
theorem dX7_make_92 : decode cX7_make 92 = .ok (.iload 4, 2) := by decide +kernel
theorem dX7_make_94 : decode cX7_make 94 = .ok (.invokevirtual 45, 3) := by decide +kernel
theorem dX7_make_97 : decode cX7_make 97 = .ok (.iinc 5 1, 3) := by decide +kernel
theorem dX7_make_100 : decode cX7_make 100 = .ok (.goto (-58), 3) := by decide +kernel
theorem dX7_make_103 : decode cX7_make 103 = .ok (.return_, 1) := by decide +kernel
theorem dX7_joinEnds_0 : decode cX7_joinEnds 0 = .ok (.aload_n 0, 1) := by decide +kernel
theorem dX7_joinEnds_1 : decode cX7_joinEnds 1 = .ok (.getfield 18, 3) := by decide +kernel
theorem dX7_joinEnds_4 : decode cX7_joinEnds 4 = .ok (.invokevirtual 59, 3) := by decide +kernel
theorem dX7_joinEnds_7 : decode cX7_joinEnds 7 = .ok (.iconst 0, 1) := by decide +kernel
theorem dX7_joinEnds_8 : decode cX7_joinEnds 8 = .ok (.istore 4, 2) := by decide +kernel
theorem dX7_joinEnds_10 : decode cX7_joinEnds 10 = .ok (.iload 4, 2) := by decide +kernel
theorem dX7_joinEnds_12 : decode cX7_joinEnds 12 = .ok (.iload_n 1, 1) := by decide +kernel
theorem dX7_joinEnds_13 : decode cX7_joinEnds 13 = .ok (.if_icmp .ge 58, 3) := by decide +kernel
theorem dX7_joinEnds_16 : decode cX7_joinEnds 16 = .ok (.aload_n 2, 1) := by decide +kernel
theorem dX7_joinEnds_17 : decode cX7_joinEnds 17 = .ok (.iload 4, 2) := by decide +kernel
theorem dX7_joinEnds_19 : decode cX7_joinEnds 19 = .ok (.iaload, 1) := by decide +kernel
theorem dX7_joinEnds_20 : decode cX7_joinEnds 20 = .ok (.ifCond .le 19, 3) := by decide +kernel
theorem dX7_joinEnds_23 : decode cX7_joinEnds 23 = .ok (.aload_n 0, 1) := by decide +kernel
theorem dX7_joinEnds_24 : decode cX7_joinEnds 24 = .ok (.getfield 18, 3) := by decide +kernel
theorem dX7_joinEnds_27 : decode cX7_joinEnds 27 = .ok (.bipush 20, 2) := by decide +kernel
theorem dX7_joinEnds_29 : decode cX7_joinEnds 29 = .ok (.iload 4, 2) := by decide +kernel
theorem dX7_joinEnds_31 : decode cX7_joinEnds 31 = .ok (.aload_n 2, 1) := by decide +kernel
theorem dX7_joinEnds_32 : decode cX7_joinEnds 32 = .ok (.iload 4, 2) := by decide +kernel
theorem dX7_joinEnds_34 : decode cX7_joinEnds 34 = .ok (.iaload, 1) := by decide +kernel
theorem dX7_joinEnds_35 : decode cX7_joinEnds 35 = .ok (.iconst 0, 1) := by decide +kernel
theorem dX7_joinEnds_36 : decode cX7_joinEnds 36 = .ok (.invokevirtual 62, 3) := by decide +kernel
theorem dX7_joinEnds_39 : decode cX7_joinEnds 39 = .ok (.aload_n 3, 1) := by decide +kernel
theorem dX7_joinEnds_40 : decode cX7_joinEnds 40 = .ok (.iload 4, 2) := by decide +kernel
theorem dX7_joinEnds_42 : decode cX7_joinEnds 42 = .ok (.iaload, 1) := by decide +kernel
theorem dX7_joinEnds_43 : decode cX7_joinEnds 43 = .ok (.ifCond .le 22, 3) := by decide +kernel
theorem dX7_joinEnds_46 : decode cX7_joinEnds 46 = .ok (.aload_n 0, 1) := by decide +kernel
theorem dX7_joinEnds_47 : decode cX7_joinEnds 47 = .ok (.getfield 18, 3) := by decide +kernel
theorem dX7_joinEnds_50 : decode cX7_joinEnds 50 = .ok (.bipush 10, 2) := by decide +kernel
theorem dX7_joinEnds_52 : decode cX7_joinEnds 52 = .ok (.iload 4, 2) := by decide +kernel
theorem dX7_joinEnds_54 : decode cX7_joinEnds 54 = .ok (.iadd, 1) := by decide +kernel
theorem dX7_joinEnds_55 : decode cX7_joinEnds 55 = .ok (.bipush 21, 2) := by decide +kernel
theorem dX7_joinEnds_57 : decode cX7_joinEnds 57 = .ok (.aload_n 3, 1) := by decide +kernel
theorem dX7_joinEnds_58 : decode cX7_joinEnds 58 = .ok (.iload 4, 2) := by decide +kernel
theorem dX7_joinEnds_60 : decode cX7_joinEnds 60 = .ok (.iaload, 1) := by decide +kernel
theorem dX7_joinEnds_61 : decode cX7_joinEnds 61 = .ok (.iconst 0, 1) := by decide +kernel
theorem dX7_joinEnds_62 : decode cX7_joinEnds 62 = .ok (.invokevirtual 62, 3) := by decide +kernel
theorem dX7_joinEnds_65 : decode cX7_joinEnds 65 = .ok (.iinc 4 1, 3) := by decide +kernel
theorem dX7_joinEnds_68 : decode cX7_joinEnds 68 = .ok (.goto (-58), 3) := by decide +kernel
theorem dX7_joinEnds_71 : decode cX7_joinEnds 71 = .ok (.return_, 1) := by decide +kernel
theorem dX7_joinDistance_0 : decode cX7_joinDistance 0 = .ok (.iconst 0, 1) := by decide +kernel
theorem dX7_joinDistance_1 : decode cX7_joinDistance 1 = .ok (.istore 4, 2) := by decide +kernel
theorem dX7_joinDistance_3 : decode cX7_joinDistance 3 = .ok (.iload 4, 2) := by decide +kernel
theorem dX7_joinDistance_5 : decode cX7_joinDistance 5 = .ok (.aload_n 1, 1) := by decide +kernel
theorem dX7_joinDistance_6 : decode cX7_joinDistance 6 = .ok (.getfield 22, 3) := by decide +kernel
theorem dX7_joinDistance_9 : decode cX7_joinDistance 9 = .ok (.if_icmp .ge 75, 3) := by decide +kernel
theorem dX7_joinDistance_12 : decode cX7_joinDistance 12 = .ok (.iconst 0, 1) := by decide +kernel
theorem dX7_joinDistance_13 : decode cX7_joinDistance 13 = .ok (.istore 5, 2) := by decide +kernel
theorem dX7_joinDistance_15 : decode cX7_joinDistance 15 = .ok (.iload 5, 2) := by decide +kernel
theorem dX7_joinDistance_17 : decode cX7_joinDistance 17 = .ok (.aload_n 1, 1) := by decide +kernel
theorem dX7_joinDistance_18 : decode cX7_joinDistance 18 = .ok (.getfield 22, 3) := by decide +kernel
theorem dX7_joinDistance_21 : decode cX7_joinDistance 21 = .ok (.if_icmp .ge 57, 3) := by decide +kernel
theorem dX7_joinDistance_24 : decode cX7_joinDistance 24 = .ok (.aload_n 1, 1) := by decide +kernel
theorem dX7_joinDistance_25 : decode cX7_joinDistance 25 = .ok (.getfield 66, 3) := by decide +kernel
theorem dX7_joinDistance_28 : decode cX7_joinDistance 28 = .ok (.iload 4, 2) := by decide +kernel
theorem dX7_joinDistance_30 : decode cX7_joinDistance 30 = .ok (.aaload, 1) := by decide +kernel
theorem dX7_joinDistance_31 : decode cX7_joinDistance 31 = .ok (.iload 5, 2) := by decide +kernel
theorem dX7_joinDistance_33 : decode cX7_joinDistance 33 = .ok (.iaload, 1) := by decide +kernel
theorem dX7_joinDistance_34 : decode cX7_joinDistance 34 = .ok (.aload_n 0, 1) := by decide +kernel
theorem dX7_joinDistance_35 : decode cX7_joinDistance 35 = .ok (.getfield 38, 3) := by decide +kernel
theorem dX7_joinDistance_38 : decode cX7_joinDistance 38 = .ok (.if_icmp .ne 34, 3) := by decide +kernel
theorem dX7_joinDistance_41 : decode cX7_joinDistance 41 = .ok (.aload_n 2, 1) := by decide +kernel
theorem dX7_joinDistance_42 : decode cX7_joinDistance 42 = .ok (.iload 4, 2) := by decide +kernel
theorem dX7_joinDistance_44 : decode cX7_joinDistance 44 = .ok (.iaload, 1) := by decide +kernel
theorem dX7_joinDistance_45 : decode cX7_joinDistance 45 = .ok (.ifCond .le 27, 3) := by decide +kernel
theorem dX7_joinDistance_48 : decode cX7_joinDistance 48 = .ok (.aload_n 3, 1) := by decide +kernel
theorem dX7_joinDistance_49 : decode cX7_joinDistance 49 = .ok (.iload 5, 2) := by decide +kernel
theorem dX7_joinDistance_51 : decode cX7_joinDistance 51 = .ok (.iaload, 1) := by decide +kernel
theorem dX7_joinDistance_52 : decode cX7_joinDistance 52 = .ok (.ifCond .le 20, 3) := by decide +kernel
theorem dX7_joinDistance_55 : decode cX7_joinDistance 55 = .ok (.aload_n 0, 1) := by decide +kernel
theorem dX7_joinDistance_56 : decode cX7_joinDistance 56 = .ok (.getfield 18, 3) := by decide +kernel
theorem dX7_joinDistance_59 : decode cX7_joinDistance 59 = .ok (.iload 4, 2) := by decide +kernel
theorem dX7_joinDistance_61 : decode cX7_joinDistance 61 = .ok (.bipush 10, 2) := by decide +kernel
theorem dX7_joinDistance_63 : decode cX7_joinDistance 63 = .ok (.iload 5, 2) := by decide +kernel
theorem dX7_joinDistance_65 : decode cX7_joinDistance 65 = .ok (.iadd, 1) := by decide +kernel
theorem dX7_joinDistance_66 : decode cX7_joinDistance 66 = .ok (.ldc 70, 2) := by decide +kernel
theorem dX7_joinDistance_68 : decode cX7_joinDistance 68 = .ok (.iconst 0, 1) := by decide +kernel
theorem dX7_joinDistance_69 : decode cX7_joinDistance 69 = .ok (.invokevirtual 62, 3) := by decide +kernel
theorem dX7_joinDistance_72 : decode cX7_joinDistance 72 = .ok (.iinc 5 1, 3) := by decide +kernel
theorem dX7_joinDistance_75 : decode cX7_joinDistance 75 = .ok (.goto (-60), 3) := by decide +kernel
theorem dX7_joinDistance_78 : decode cX7_joinDistance 78 = .ok (.iinc 4 1, 3) := by decide +kernel
theorem dX7_joinDistance_81 : decode cX7_joinDistance 81 = .ok (.goto (-78), 3) := by decide +kernel
theorem dX7_joinDistance_84 : decode cX7_joinDistance 84 = .ok (.return_, 1) := by decide +kernel
theorem dX7_noteStuck_0 : decode cX7_noteStuck 0 = .ok (.iconst 0, 1) := by decide +kernel
theorem dX7_noteStuck_1 : decode cX7_noteStuck 1 = .ok (.istore_n 2, 1) := by decide +kernel
theorem dX7_noteStuck_2 : decode cX7_noteStuck 2 = .ok (.iload_n 2, 1) := by decide +kernel
theorem dX7_noteStuck_3 : decode cX7_noteStuck 3 = .ok (.iload_n 1, 1) := by decide +kernel
theorem dX7_noteStuck_4 : decode cX7_noteStuck 4 = .ok (.if_icmp .ge 31, 3) := by decide +kernel
theorem dX7_noteStuck_7 : decode cX7_noteStuck 7 = .ok (.aload_n 0, 1) := by decide +kernel
theorem dX7_noteStuck_8 : decode cX7_noteStuck 8 = .ok (.getfield 9, 3) := by decide +kernel
theorem dX7_noteStuck_11 : decode cX7_noteStuck 11 = .ok (.iload_n 2, 1) := by decide +kernel
theorem dX7_noteStuck_12 : decode cX7_noteStuck 12 = .ok (.aload_n 0, 1) := by decide +kernel
theorem dX7_noteStuck_13 : decode cX7_noteStuck 13 = .ok (.getfield 18, 3) := by decide +kernel
theorem dX7_noteStuck_16 : decode cX7_noteStuck 16 = .ok (.iload_n 2, 1) := by decide +kernel
theorem dX7_noteStuck_17 : decode cX7_noteStuck 17 = .ok (.invokevirtual 71, 3) := by decide +kernel
theorem dX7_noteStuck_20 : decode cX7_noteStuck 20 = .ok (.ifCond .eq 7, 3) := by decide +kernel
theorem dX7_noteStuck_23 : decode cX7_noteStuck 23 = .ok (.iconst 1, 1) := by decide +kernel
theorem dX7_noteStuck_24 : decode cX7_noteStuck 24 = .ok (.goto 4, 3) := by decide +kernel
theorem dX7_noteStuck_27 : decode cX7_noteStuck 27 = .ok (.iconst 0, 1) := by decide +kernel
theorem dX7_noteStuck_28 : decode cX7_noteStuck 28 = .ok (.iastore, 1) := by decide +kernel
theorem dX7_noteStuck_29 : decode cX7_noteStuck 29 = .ok (.iinc 2 1, 3) := by decide +kernel
theorem dX7_noteStuck_32 : decode cX7_noteStuck 32 = .ok (.goto (-30), 3) := by decide +kernel
theorem dX7_noteStuck_35 : decode cX7_noteStuck 35 = .ok (.return_, 1) := by decide +kernel
theorem dX7_distanceAbove_0 : decode cX7_distanceAbove 0 = .ok (.ldc 70, 2) := by decide +kernel
theorem dX7_distanceAbove_2 : decode cX7_distanceAbove 2 = .ok (.istore_n 2, 1) := by decide +kernel
theorem dX7_distanceAbove_3 : decode cX7_distanceAbove 3 = .ok (.iconst 0, 1) := by decide +kernel
theorem dX7_distanceAbove_4 : decode cX7_distanceAbove 4 = .ok (.istore_n 3, 1) := by decide +kernel
theorem dX7_distanceAbove_5 : decode cX7_distanceAbove 5 = .ok (.iload_n 3, 1) := by decide +kernel
theorem dX7_distanceAbove_6 : decode cX7_distanceAbove 6 = .ok (.aload_n 0, 1) := by decide +kernel
theorem dX7_distanceAbove_7 : decode cX7_distanceAbove 7 = .ok (.getfield 22, 3) := by decide +kernel
theorem dX7_distanceAbove_10 : decode cX7_distanceAbove 10 = .ok (.if_icmp .ge 54, 3) := by decide +kernel
theorem dX7_distanceAbove_13 : decode cX7_distanceAbove 13 = .ok (.iconst 0, 1) := by decide +kernel
theorem dX7_distanceAbove_14 : decode cX7_distanceAbove 14 = .ok (.istore 4, 2) := by decide +kernel
theorem dX7_distanceAbove_16 : decode cX7_distanceAbove 16 = .ok (.iload 4, 2) := by decide +kernel
theorem dX7_distanceAbove_18 : decode cX7_distanceAbove 18 = .ok (.aload_n 0, 1) := by decide +kernel
theorem dX7_distanceAbove_19 : decode cX7_distanceAbove 19 = .ok (.getfield 22, 3) := by decide +kernel
theorem dX7_distanceAbove_22 : decode cX7_distanceAbove 22 = .ok (.if_icmp .ge 36, 3) := by decide +kernel
theorem dX7_distanceAbove_25 : decode cX7_distanceAbove 25 = .ok (.aload_n 0, 1) := by decide +kernel
theorem dX7_distanceAbove_26 : decode cX7_distanceAbove 26 = .ok (.getfield 66, 3) := by decide +kernel
theorem dX7_distanceAbove_29 : decode cX7_distanceAbove 29 = .ok (.iload_n 3, 1) := by decide +kernel
theorem dX7_distanceAbove_30 : decode cX7_distanceAbove 30 = .ok (.aaload, 1) := by decide +kernel
theorem dX7_distanceAbove_31 : decode cX7_distanceAbove 31 = .ok (.iload 4, 2) := by decide +kernel
theorem dX7_distanceAbove_33 : decode cX7_distanceAbove 33 = .ok (.iaload, 1) := by decide +kernel
theorem dX7_distanceAbove_34 : decode cX7_distanceAbove 34 = .ok (.iload_n 1, 1) := by decide +kernel
theorem dX7_distanceAbove_35 : decode cX7_distanceAbove 35 = .ok (.if_icmp .le 17, 3) := by decide +kernel
theorem dX7_distanceAbove_38 : decode cX7_distanceAbove 38 = .ok (.iload_n 2, 1) := by decide +kernel
theorem dX7_distanceAbove_39 : decode cX7_distanceAbove 39 = .ok (.aload_n 0, 1) := by decide +kernel
theorem dX7_distanceAbove_40 : decode cX7_distanceAbove 40 = .ok (.getfield 66, 3) := by decide +kernel
theorem dX7_distanceAbove_43 : decode cX7_distanceAbove 43 = .ok (.iload_n 3, 1) := by decide +kernel
theorem dX7_distanceAbove_44 : decode cX7_distanceAbove 44 = .ok (.aaload, 1) := by decide +kernel
theorem dX7_distanceAbove_45 : decode cX7_distanceAbove 45 = .ok (.iload 4, 2) := by decide +kernel
theorem dX7_distanceAbove_47 : decode cX7_distanceAbove 47 = .ok (.iaload, 1) := by decide +kernel
theorem dX7_distanceAbove_48 : decode cX7_distanceAbove 48 = .ok (.invokestatic 75, 3) := by decide +kernel
theorem dX7_distanceAbove_51 : decode cX7_distanceAbove 51 = .ok (.istore_n 2, 1) := by decide +kernel
theorem dX7_distanceAbove_52 : decode cX7_distanceAbove 52 = .ok (.iinc 4 1, 3) := by decide +kernel
theorem dX7_distanceAbove_55 : decode cX7_distanceAbove 55 = .ok (.goto (-39), 3) := by decide +kernel
theorem dX7_distanceAbove_58 : decode cX7_distanceAbove 58 = .ok (.iinc 3 1, 3) := by decide +kernel
theorem dX7_distanceAbove_61 : decode cX7_distanceAbove 61 = .ok (.goto (-56), 3) := by decide +kernel
theorem dX7_distanceAbove_64 : decode cX7_distanceAbove 64 = .ok (.iload_n 2, 1) := by decide +kernel
theorem dX7_distanceAbove_65 : decode cX7_distanceAbove 65 = .ok (.ireturn, 1) := by decide +kernel
theorem dX8_init_0 : decode cX8_init 0 = .ok (.aload_n 0, 1) := by decide +kernel
theorem dX8_init_1 : decode cX8_init 1 = .ok (.invokespecial 3, 3) := by decide +kernel
theorem dX8_init_4 : decode cX8_init 4 = .ok (.aload_n 0, 1) := by decide +kernel
theorem dX8_init_5 : decode cX8_init 5 = .ok (.new 9, 3) := by decide +kernel
theorem dX8_init_8 : decode cX8_init 8 = .ok (.dup, 1) := by decide +kernel
theorem dX8_init_9 : decode cX8_init 9 = .ok (.invokespecial 11, 3) := by decide +kernel
theorem dX8_init_12 : decode cX8_init 12 = .ok (.putfield 12, 3) := by decide +kernel
theorem dX8_init_15 : decode cX8_init 15 = .ok (.aload_n 0, 1) := by decide +kernel
theorem dX8_init_16 : decode cX8_init 16 = .ok (.new 16, 3) := by decide +kernel
theorem dX8_init_19 : decode cX8_init 19 = .ok (.dup, 1) := by decide +kernel
theorem dX8_init_20 : decode cX8_init 20 = .ok (.invokespecial 18, 3) := by decide +kernel
theorem dX8_init_23 : decode cX8_init 23 = .ok (.putfield 19, 3) := by decide +kernel
theorem dX8_init_26 : decode cX8_init 26 = .ok (.aload_n 0, 1) := by decide +kernel
theorem dX8_init_27 : decode cX8_init 27 = .ok (.new 23, 3) := by decide +kernel
theorem dX8_init_30 : decode cX8_init 30 = .ok (.dup, 1) := by decide +kernel
theorem dX8_init_31 : decode cX8_init 31 = .ok (.invokespecial 25, 3) := by decide +kernel
theorem dX8_init_34 : decode cX8_init 34 = .ok (.putfield 26, 3) := by decide +kernel
theorem dX8_init_37 : decode cX8_init 37 = .ok (.aload_n 0, 1) := by decide +kernel
theorem dX8_init_38 : decode cX8_init 38 = .ok (.new 30, 3) := by decide +kernel
theorem dX8_init_41 : decode cX8_init 41 = .ok (.dup, 1) := by decide +kernel
theorem dX8_init_42 : decode cX8_init 42 = .ok (.invokespecial 32, 3) := by decide +kernel
theorem dX8_init_45 : decode cX8_init 45 = .ok (.putfield 33, 3) := by decide +kernel
theorem dX8_init_48 : decode cX8_init 48 = .ok (.aload_n 0, 1) := by decide +kernel
theorem dX8_init_49 : decode cX8_init 49 = .ok (.new 37, 3) := by decide +kernel
theorem dX8_init_52 : decode cX8_init 52 = .ok (.dup, 1) := by decide +kernel
theorem dX8_init_53 : decode cX8_init 53 = .ok (.invokespecial 39, 3) := by decide +kernel
theorem dX8_init_56 : decode cX8_init 56 = .ok (.putfield 40, 3) := by decide +kernel
theorem dX8_init_59 : decode cX8_init 59 = .ok (.aload_n 0, 1) := by decide +kernel
theorem dX8_init_60 : decode cX8_init 60 = .ok (.new 44, 3) := by decide +kernel
theorem dX8_init_63 : decode cX8_init 63 = .ok (.dup, 1) := by decide +kernel
theorem dX8_init_64 : decode cX8_init 64 = .ok (.invokespecial 46, 3) := by decide +kernel
theorem dX8_init_67 : decode cX8_init 67 = .ok (.putfield 47, 3) := by decide +kernel
theorem dX8_init_70 : decode cX8_init 70 = .ok (.aload_n 0, 1) := by decide +kernel
theorem dX8_init_71 : decode cX8_init 71 = .ok (.new 51, 3) := by decide +kernel
theorem dX8_init_74 : decode cX8_init 74 = .ok (.dup, 1) := by decide +kernel
theorem dX8_init_75 : decode cX8_init 75 = .ok (.invokespecial 53, 3) := by decide +kernel
theorem dX8_init_78 : decode cX8_init 78 = .ok (.putfield 54, 3) := by decide +kernel
theorem dX8_init_81 : decode cX8_init 81 = .ok (.aload_n 0, 1) := by decide +kernel
theorem dX8_init_82 : decode cX8_init 82 = .ok (.iconst (-1), 1) := by decide +kernel
theorem dX8_init_83 : decode cX8_init 83 = .ok (.putfield 58, 3) := by decide +kernel
theorem dX8_init_86 : decode cX8_init 86 = .ok (.aload_n 0, 1) := by decide +kernel
theorem dX8_init_87 : decode cX8_init 87 = .ok (.iconst (-1), 1) := by decide +kernel
theorem dX8_init_88 : decode cX8_init 88 = .ok (.putfield 62, 3) := by decide +kernel
theorem dX8_init_91 : decode cX8_init 91 = .ok (.aload_n 0, 1) := by decide +kernel
theorem dX8_init_92 : decode cX8_init 92 = .ok (.iconst (-1), 1) := by decide +kernel
theorem dX8_init_93 : decode cX8_init 93 = .ok (.putfield 65, 3) := by decide +kernel
theorem dX8_init_96 : decode cX8_init 96 = .ok (.aload_n 0, 1) := by decide +kernel
theorem dX8_init_97 : decode cX8_init 97 = .ok (.iconst (-1), 1) := by decide +kernel
theorem dX8_init_98 : decode cX8_init 98 = .ok (.putfield 68, 3) := by decide +kernel
theorem dX8_init_101 : decode cX8_init 101 = .ok (.aload_n 0, 1) := by decide +kernel
theorem dX8_init_102 : decode cX8_init 102 = .ok (.iconst 0, 1) := by decide +kernel
theorem dX8_init_103 : decode cX8_init 103 = .ok (.putfield 71, 3) := by decide +kernel
theorem dX8_init_106 : decode cX8_init 106 = .ok (.return_, 1) := by decide +kernel
theorem dX8_place_0 : decode cX8_place 0 = .ok (.aload_n 0, 1) := by decide +kernel
theorem dX8_place_1 : decode cX8_place 1 = .ok (.getfield 12, 3) := by decide +kernel
theorem dX8_place_4 : decode cX8_place 4 = .ok (.getfield 74, 3) := by decide +kernel
theorem dX8_place_7 : decode cX8_place 7 = .ok (.bipush 10, 2) := by decide +kernel
theorem dX8_place_9 : decode cX8_place 9 = .ok (.if_icmp .lt 6, 3) := by decide +kernel
theorem dX8_place_12 : decode cX8_place 12 = .ok (.bipush (-5), 2) := by decide +kernel
theorem dX8_place_14 : decode cX8_place 14 = .ok (.ireturn, 1) := by decide +kernel
theorem dX8_place_15 : decode cX8_place 15 = .ok (.aload_n 0, 1) := by decide +kernel
theorem dX8_place_16 : decode cX8_place 16 = .ok (.getfield 12, 3) := by decide +kernel
theorem dX8_place_19 : decode cX8_place 19 = .ok (.invokevirtual 77, 3) := by decide +kernel
theorem dX8_place_22 : decode cX8_place 22 = .ok (.istore_n 1, 1) := by decide +kernel
theorem dX8_place_23 : decode cX8_place 23 = .ok (.aload_n 0, 1) := by decide +kernel
theorem dX8_place_24 : decode cX8_place 24 = .ok (.iconst 0, 1) := by decide +kernel
theorem dX8_place_25 : decode cX8_place 25 = .ok (.iload_n 1, 1) := by decide +kernel
theorem dX8_place_26 : decode cX8_place 26 = .ok (.iconst (-1), 1) := by decide +kernel
theorem dX8_place_27 : decode cX8_place 27 = .ok (.iconst (-1), 1) := by decide +kernel
theorem dX8_place_28 : decode cX8_place 28 = .ok (.invokevirtual 81, 3) := by decide +kernel
theorem dX8_place_31 : decode cX8_place 31 = .ok (.iload_n 1, 1) := by decide +kernel
theorem dX8_place_32 : decode cX8_place 32 = .ok (.ireturn, 1) := by decide +kernel
theorem dX8_road_0 : decode cX8_road 0 = .ok (.aload_n 0, 1) := by decide +kernel
theorem dX8_road_1 : decode cX8_road 1 = .ok (.getfield 12, 3) := by decide +kernel
theorem dX8_road_4 : decode cX8_road 4 = .ok (.iload_n 1, 1) := by decide +kernel
theorem dX8_road_5 : decode cX8_road 5 = .ok (.invokevirtual 85, 3) := by decide +kernel
theorem dX8_road_8 : decode cX8_road 8 = .ok (.ifCond .eq 14, 3) := by decide +kernel
theorem dX8_road_11 : decode cX8_road 11 = .ok (.aload_n 0, 1) := by decide +kernel
theorem dX8_road_12 : decode cX8_road 12 = .ok (.getfield 12, 3) := by decide +kernel
theorem dX8_road_15 : decode cX8_road 15 = .ok (.iload_n 2, 1) := by decide +kernel
theorem dX8_road_16 : decode cX8_road 16 = .ok (.invokevirtual 85, 3) := by decide +kernel
theorem dX8_road_19 : decode cX8_road 19 = .ok (.ifCond .ne 6, 3) := by decide +kernel
theorem dX8_road_22 : decode cX8_road 22 = .ok (.bipush (-2), 2) := by decide +kernel
theorem dX8_road_24 : decode cX8_road 24 = .ok (.ireturn, 1) := by decide +kernel
theorem dX8_road_25 : decode cX8_road 25 = .ok (.iload_n 3, 1) := by decide +kernel
theorem dX8_road_26 : decode cX8_road 26 = .ok (.iconst 1, 1) := by decide +kernel
theorem dX8_road_27 : decode cX8_road 27 = .ok (.if_icmp .lt 15, 3) := by decide +kernel
theorem dX8_road_30 : decode cX8_road 30 = .ok (.iload_n 3, 1) := by decide +kernel
theorem dX8_road_31 : decode cX8_road 31 = .ok (.sipush 1000, 3) := by decide +kernel
theorem dX8_road_34 : decode cX8_road 34 = .ok (.if_icmp .gt 8, 3) := by decide +kernel
theorem dX8_road_37 : decode cX8_road 37 = .ok (.iload_n 1, 1) := by decide +kernel
theorem dX8_road_38 : decode cX8_road 38 = .ok (.iload_n 2, 1) := by decide +kernel
theorem dX8_road_39 : decode cX8_road 39 = .ok (.if_icmp .ne 6, 3) := by decide +kernel
theorem dX8_road_42 : decode cX8_road 42 = .ok (.bipush (-3), 2) := by decide +kernel
theorem dX8_road_44 : decode cX8_road 44 = .ok (.ireturn, 1) := by decide +kernel
theorem dX8_road_45 : decode cX8_road 45 = .ok (.aload_n 0, 1) := by decide +kernel
theorem dX8_road_46 : decode cX8_road 46 = .ok (.getfield 12, 3) := by decide +kernel
theorem dX8_road_49 : decode cX8_road 49 = .ok (.getfield 89, 3) := by decide +kernel
theorem dX8_road_52 : decode cX8_road 52 = .ok (.bipush 30, 2) := by decide +kernel
theorem dX8_road_54 : decode cX8_road 54 = .ok (.if_icmp .lt 6, 3) := by decide +kernel
theorem dX8_road_57 : decode cX8_road 57 = .ok (.bipush (-5), 2) := by decide +kernel
theorem dX8_road_59 : decode cX8_road 59 = .ok (.ireturn, 1) := by decide +kernel
theorem dX8_road_60 : decode cX8_road 60 = .ok (.aload_n 0, 1) := by decide +kernel
theorem dX8_road_61 : decode cX8_road 61 = .ok (.getfield 12, 3) := by decide +kernel
theorem dX8_road_64 : decode cX8_road 64 = .ok (.iload_n 1, 1) := by decide +kernel
theorem dX8_road_65 : decode cX8_road 65 = .ok (.iload_n 2, 1) := by decide +kernel
theorem dX8_road_66 : decode cX8_road 66 = .ok (.iload_n 3, 1) := by decide +kernel
theorem dX8_road_67 : decode cX8_road 67 = .ok (.invokevirtual 92, 3) := by decide +kernel
theorem dX8_road_70 : decode cX8_road 70 = .ok (.istore 4, 2) := by decide +kernel
theorem dX8_road_72 : decode cX8_road 72 = .ok (.aload_n 0, 1) := by decide +kernel
theorem dX8_road_73 : decode cX8_road 73 = .ok (.iconst 1, 1) := by decide +kernel
theorem dX8_road_74 : decode cX8_road 74 = .ok (.iload 4, 2) := by decide +kernel
theorem dX8_road_76 : decode cX8_road 76 = .ok (.iconst (-1), 1) := by decide +kernel
theorem dX8_road_77 : decode cX8_road 77 = .ok (.iconst (-1), 1) := by decide +kernel
theorem dX8_road_78 : decode cX8_road 78 = .ok (.invokevirtual 81, 3) := by decide +kernel
theorem dX8_road_81 : decode cX8_road 81 = .ok (.iload 4, 2) := by decide +kernel
theorem dX8_road_83 : decode cX8_road 83 = .ok (.ireturn, 1) := by decide +kernel
theorem dX8_heap_0 : decode cX8_heap 0 = .ok (.aload_n 0, 1) := by decide +kernel
theorem dX8_heap_1 : decode cX8_heap 1 = .ok (.getfield 19, 3) := by decide +kernel
theorem dX8_heap_4 : decode cX8_heap 4 = .ok (.getfield 96, 3) := by decide +kernel
theorem dX8_heap_7 : decode cX8_heap 7 = .ok (.bipush 8, 2) := by decide +kernel
theorem dX8_heap_9 : decode cX8_heap 9 = .ok (.if_icmp .lt 6, 3) := by decide +kernel
theorem dX8_heap_12 : decode cX8_heap 12 = .ok (.bipush (-5), 2) := by decide +kernel
theorem dX8_heap_14 : decode cX8_heap 14 = .ok (.ireturn, 1) := by decide +kernel
theorem dX8_heap_15 : decode cX8_heap 15 = .ok (.aload_n 0, 1) := by decide +kernel
theorem dX8_heap_16 : decode cX8_heap 16 = .ok (.getfield 19, 3) := by decide +kernel
theorem dX8_heap_19 : decode cX8_heap 19 = .ok (.getfield 96, 3) := by decide +kernel
theorem dX8_heap_22 : decode cX8_heap 22 = .ok (.istore_n 1, 1) := by decide +kernel
theorem dX8_heap_23 : decode cX8_heap 23 = .ok (.aload_n 0, 1) := by decide +kernel
theorem dX8_heap_24 : decode cX8_heap 24 = .ok (.getfield 19, 3) := by decide +kernel
theorem dX8_heap_27 : decode cX8_heap 27 = .ok (.dup, 1) := by decide +kernel
theorem dX8_heap_28 : decode cX8_heap 28 = .ok (.getfield 96, 3) := by decide +kernel
theorem dX8_heap_31 : decode cX8_heap 31 = .ok (.iconst 1, 1) := by decide +kernel
theorem dX8_heap_32 : decode cX8_heap 32 = .ok (.iadd, 1) := by decide +kernel
theorem dX8_heap_33 : decode cX8_heap 33 = .ok (.putfield 96, 3) := by decide +kernel
theorem dX8_heap_36 : decode cX8_heap 36 = .ok (.aload_n 0, 1) := by decide +kernel
theorem dX8_heap_37 : decode cX8_heap 37 = .ok (.iconst 2, 1) := by decide +kernel
theorem dX8_heap_38 : decode cX8_heap 38 = .ok (.iload_n 1, 1) := by decide +kernel
theorem dX8_heap_39 : decode cX8_heap 39 = .ok (.iconst (-1), 1) := by decide +kernel
theorem dX8_heap_40 : decode cX8_heap 40 = .ok (.iconst (-1), 1) := by decide +kernel
theorem dX8_heap_41 : decode cX8_heap 41 = .ok (.invokevirtual 81, 3) := by decide +kernel
theorem dX8_heap_44 : decode cX8_heap 44 = .ok (.iload_n 1, 1) := by decide +kernel
theorem dX8_heap_45 : decode cX8_heap 45 = .ok (.ireturn, 1) := by decide +kernel
theorem dX8_set_0 : decode cX8_set 0 = .ok (.aload_n 0, 1) := by decide +kernel
theorem dX8_set_1 : decode cX8_set 1 = .ok (.getfield 19, 3) := by decide +kernel
theorem dX8_set_4 : decode cX8_set 4 = .ok (.iload_n 1, 1) := by decide +kernel
theorem dX8_set_5 : decode cX8_set 5 = .ok (.invokevirtual 99, 3) := by decide +kernel
theorem dX8_set_8 : decode cX8_set 8 = .ok (.ifCond .eq 14, 3) := by decide +kernel
theorem dX8_set_11 : decode cX8_set 11 = .ok (.aload_n 0, 1) := by decide +kernel
theorem dX8_set_12 : decode cX8_set 12 = .ok (.getfield 12, 3) := by decide +kernel
theorem dX8_set_15 : decode cX8_set 15 = .ok (.iload_n 2, 1) := by decide +kernel
theorem dX8_set_16 : decode cX8_set 16 = .ok (.invokevirtual 85, 3) := by decide +kernel
theorem dX8_set_19 : decode cX8_set 19 = .ok (.ifCond .ne 6, 3) := by decide +kernel
theorem dX8_set_22 : decode cX8_set 22 = .ok (.bipush (-2), 2) := by decide +kernel
theorem dX8_set_24 : decode cX8_set 24 = .ok (.ireturn, 1) := by decide +kernel
theorem dX8_set_25 : decode cX8_set 25 = .ok (.iload_n 3, 1) := by decide +kernel
theorem dX8_set_26 : decode cX8_set 26 = .ok (.ifCond .lt 10, 3) := by decide +kernel
theorem dX8_set_29 : decode cX8_set 29 = .ok (.iload_n 3, 1) := by decide +kernel
theorem dX8_set_30 : decode cX8_set 30 = .ok (.sipush 1000, 3) := by decide +kernel
theorem dX8_set_33 : decode cX8_set 33 = .ok (.if_icmp .le 6, 3) := by decide +kernel
theorem dX8_set_36 : decode cX8_set 36 = .ok (.bipush (-3), 2) := by decide +kernel
theorem dX8_set_38 : decode cX8_set 38 = .ok (.ireturn, 1) := by decide +kernel
theorem dX8_set_39 : decode cX8_set 39 = .ok (.aload_n 0, 1) := by decide +kernel
theorem dX8_set_40 : decode cX8_set 40 = .ok (.getfield 19, 3) := by decide +kernel
theorem dX8_set_43 : decode cX8_set 43 = .ok (.getfield 100, 3) := by decide +kernel
theorem dX8_set_46 : decode cX8_set 46 = .ok (.iload_n 1, 1) := by decide +kernel
theorem dX8_set_47 : decode cX8_set 47 = .ok (.aaload, 1) := by decide +kernel
theorem dX8_set_48 : decode cX8_set 48 = .ok (.iload_n 2, 1) := by decide +kernel
theorem dX8_set_49 : decode cX8_set 49 = .ok (.iaload, 1) := by decide +kernel
theorem dX8_set_50 : decode cX8_set 50 = .ok (.istore 4, 2) := by decide +kernel
theorem dX8_set_52 : decode cX8_set 52 = .ok (.aload_n 0, 1) := by decide +kernel
theorem dX8_set_53 : decode cX8_set 53 = .ok (.getfield 19, 3) := by decide +kernel
theorem dX8_set_56 : decode cX8_set 56 = .ok (.getfield 100, 3) := by decide +kernel
theorem dX8_set_59 : decode cX8_set 59 = .ok (.iload_n 1, 1) := by decide +kernel
theorem dX8_set_60 : decode cX8_set 60 = .ok (.aaload, 1) := by decide +kernel
theorem dX8_set_61 : decode cX8_set 61 = .ok (.iload_n 2, 1) := by decide +kernel
theorem dX8_set_62 : decode cX8_set 62 = .ok (.iload_n 3, 1) := by decide +kernel
theorem dX8_set_63 : decode cX8_set 63 = .ok (.iastore, 1) := by decide +kernel
theorem dX8_set_64 : decode cX8_set 64 = .ok (.aload_n 0, 1) := by decide +kernel
theorem dX8_set_65 : decode cX8_set 65 = .ok (.iconst 3, 1) := by decide +kernel
theorem dX8_set_66 : decode cX8_set 66 = .ok (.iload_n 1, 1) := by decide +kernel
theorem dX8_set_67 : decode cX8_set 67 = .ok (.iload_n 2, 1) := by decide +kernel
theorem dX8_set_68 : decode cX8_set 68 = .ok (.iload 4, 2) := by decide +kernel
theorem dX8_set_70 : decode cX8_set 70 = .ok (.invokevirtual 81, 3) := by decide +kernel
theorem dX8_set_73 : decode cX8_set 73 = .ok (.iload 4, 2) := by decide +kernel
theorem dX8_set_75 : decode cX8_set 75 = .ok (.ireturn, 1) := by decide +kernel
theorem dX8_gate_0 : decode cX8_gate 0 = .ok (.aload_n 0, 1) := by decide +kernel
theorem dX8_gate_1 : decode cX8_gate 1 = .ok (.getfield 12, 3) := by decide +kernel
theorem dX8_gate_4 : decode cX8_gate 4 = .ok (.iload_n 1, 1) := by decide +kernel
theorem dX8_gate_5 : decode cX8_gate 5 = .ok (.invokevirtual 85, 3) := by decide +kernel
theorem dX8_gate_8 : decode cX8_gate 8 = .ok (.ifCond .ne 6, 3) := by decide +kernel
theorem dX8_gate_11 : decode cX8_gate 11 = .ok (.bipush (-2), 2) := by decide +kernel
theorem dX8_gate_13 : decode cX8_gate 13 = .ok (.ireturn, 1) := by decide +kernel
theorem dX8_gate_14 : decode cX8_gate 14 = .ok (.iload_n 2, 1) := by decide +kernel
theorem dX8_gate_15 : decode cX8_gate 15 = .ok (.iconst (-1), 1) := by decide +kernel
theorem dX8_gate_16 : decode cX8_gate 16 = .ok (.if_icmp .lt 9, 3) := by decide +kernel
theorem dX8_gate_19 : decode cX8_gate 19 = .ok (.iload_n 2, 1) := by decide +kernel
theorem dX8_gate_20 : decode cX8_gate 20 = .ok (.ldc 104, 2) := by decide +kernel
theorem dX8_gate_22 : decode cX8_gate 22 = .ok (.if_icmp .le 6, 3) := by decide +kernel
theorem dX8_gate_25 : decode cX8_gate 25 = .ok (.bipush (-3), 2) := by decide +kernel
theorem dX8_gate_27 : decode cX8_gate 27 = .ok (.ireturn, 1) := by decide +kernel
theorem dX8_gate_28 : decode cX8_gate 28 = .ok (.aload_n 0, 1) := by decide +kernel
theorem dX8_gate_29 : decode cX8_gate 29 = .ok (.getfield 12, 3) := by decide +kernel
theorem dX8_gate_32 : decode cX8_gate 32 = .ok (.getfield 105, 3) := by decide +kernel
theorem dX8_gate_35 : decode cX8_gate 35 = .ok (.iload_n 1, 1) := by decide +kernel
theorem dX8_gate_36 : decode cX8_gate 36 = .ok (.iaload, 1) := by decide +kernel
theorem dX8_gate_37 : decode cX8_gate 37 = .ok (.istore_n 3, 1) := by decide +kernel
theorem dX8_gate_38 : decode cX8_gate 38 = .ok (.aload_n 0, 1) := by decide +kernel
theorem dX8_gate_39 : decode cX8_gate 39 = .ok (.getfield 12, 3) := by decide +kernel
theorem dX8_gate_42 : decode cX8_gate 42 = .ok (.getfield 105, 3) := by decide +kernel
theorem dX8_gate_45 : decode cX8_gate 45 = .ok (.iload_n 1, 1) := by decide +kernel
theorem dX8_gate_46 : decode cX8_gate 46 = .ok (.iload_n 2, 1) := by decide +kernel
theorem dX8_gate_47 : decode cX8_gate 47 = .ok (.iastore, 1) := by decide +kernel
theorem dX8_gate_48 : decode cX8_gate 48 = .ok (.aload_n 0, 1) := by decide +kernel
theorem dX8_gate_49 : decode cX8_gate 49 = .ok (.iconst 4, 1) := by decide +kernel
theorem dX8_gate_50 : decode cX8_gate 50 = .ok (.iload_n 1, 1) := by decide +kernel
theorem dX8_gate_51 : decode cX8_gate 51 = .ok (.iconst (-1), 1) := by decide +kernel
theorem dX8_gate_52 : decode cX8_gate 52 = .ok (.iload_n 3, 1) := by decide +kernel
theorem dX8_gate_53 : decode cX8_gate 53 = .ok (.invokevirtual 81, 3) := by decide +kernel
theorem dX8_gate_56 : decode cX8_gate 56 = .ok (.iload_n 3, 1) := by decide +kernel
theorem dX8_gate_57 : decode cX8_gate 57 = .ok (.ireturn, 1) := by decide +kernel
theorem dX8_undo_0 : decode cX8_undo 0 = .ok (.aload_n 0, 1) := by decide +kernel
theorem dX8_undo_1 : decode cX8_undo 1 = .ok (.getfield 26, 3) := by decide +kernel
theorem dX8_undo_4 : decode cX8_undo 4 = .ok (.getfield 109, 3) := by decide +kernel
theorem dX8_undo_7 : decode cX8_undo 7 = .ok (.ifCond .ne 6, 3) := by decide +kernel
theorem dX8_undo_10 : decode cX8_undo 10 = .ok (.bipush (-4), 2) := by decide +kernel
theorem dX8_undo_12 : decode cX8_undo 12 = .ok (.ireturn, 1) := by decide +kernel
theorem dX8_undo_13 : decode cX8_undo 13 = .ok (.aload_n 0, 1) := by decide +kernel
theorem dX8_undo_14 : decode cX8_undo 14 = .ok (.aload_n 0, 1) := by decide +kernel
theorem dX8_undo_15 : decode cX8_undo 15 = .ok (.getfield 26, 3) := by decide +kernel
theorem dX8_undo_18 : decode cX8_undo 18 = .ok (.invokevirtual 112, 3) := by decide +kernel
theorem dX8_undo_21 : decode cX8_undo 21 = .ok (.invokevirtual 115, 3) := by decide +kernel
theorem dX8_undo_24 : decode cX8_undo 24 = .ok (.aload_n 0, 1) := by decide +kernel
theorem dX8_undo_25 : decode cX8_undo 25 = .ok (.invokevirtual 119, 3) := by decide +kernel
theorem dX8_undo_28 : decode cX8_undo 28 = .ok (.aload_n 0, 1) := by decide +kernel
theorem dX8_undo_29 : decode cX8_undo 29 = .ok (.getfield 26, 3) := by decide +kernel
theorem dX8_undo_32 : decode cX8_undo 32 = .ok (.getfield 109, 3) := by decide +kernel
theorem dX8_undo_35 : decode cX8_undo 35 = .ok (.ireturn, 1) := by decide +kernel
theorem dX8_apart_0 : decode cX8_apart 0 = .ok (.aload_n 0, 1) := by decide +kernel
theorem dX8_apart_1 : decode cX8_apart 1 = .ok (.getfield 12, 3) := by decide +kernel
theorem dX8_apart_4 : decode cX8_apart 4 = .ok (.iload_n 1, 1) := by decide +kernel
theorem dX8_apart_5 : decode cX8_apart 5 = .ok (.invokevirtual 85, 3) := by decide +kernel
theorem dX8_apart_8 : decode cX8_apart 8 = .ok (.ifCond .eq 14, 3) := by decide +kernel
theorem dX8_apart_11 : decode cX8_apart 11 = .ok (.aload_n 0, 1) := by decide +kernel
theorem dX8_apart_12 : decode cX8_apart 12 = .ok (.getfield 12, 3) := by decide +kernel
theorem dX8_apart_15 : decode cX8_apart 15 = .ok (.iload_n 2, 1) := by decide +kernel
theorem dX8_apart_16 : decode cX8_apart 16 = .ok (.invokevirtual 85, 3) := by decide +kernel
theorem dX8_apart_19 : decode cX8_apart 19 = .ok (.ifCond .ne 6, 3) := by decide +kernel
theorem dX8_apart_22 : decode cX8_apart 22 = .ok (.bipush (-2), 2) := by decide +kernel
theorem dX8_apart_24 : decode cX8_apart 24 = .ok (.ireturn, 1) := by decide +kernel
theorem dX8_apart_25 : decode cX8_apart 25 = .ok (.aload_n 0, 1) := by decide +kernel
theorem dX8_apart_26 : decode cX8_apart 26 = .ok (.getfield 12, 3) := by decide +kernel
theorem dX8_apart_29 : decode cX8_apart 29 = .ok (.getfield 122, 3) := by decide +kernel
theorem dX8_apart_32 : decode cX8_apart 32 = .ok (.iload_n 1, 1) := by decide +kernel
theorem dX8_apart_33 : decode cX8_apart 33 = .ok (.aaload, 1) := by decide +kernel
theorem dX8_apart_34 : decode cX8_apart 34 = .ok (.iload_n 2, 1) := by decide +kernel
theorem dX8_apart_35 : decode cX8_apart 35 = .ok (.iaload, 1) := by decide +kernel
theorem dX8_apart_36 : decode cX8_apart 36 = .ok (.istore_n 3, 1) := by decide +kernel
theorem dX8_apart_37 : decode cX8_apart 37 = .ok (.iload_n 3, 1) := by decide +kernel
theorem dX8_apart_38 : decode cX8_apart 38 = .ok (.ldc 125, 2) := by decide +kernel
theorem dX8_apart_40 : decode cX8_apart 40 = .ok (.if_icmp .ne 7, 3) := by decide +kernel
theorem dX8_apart_43 : decode cX8_apart 43 = .ok (.iconst (-1), 1) := by decide +kernel
theorem dX8_apart_44 : decode cX8_apart 44 = .ok (.goto 4, 3) := by decide +kernel
theorem dX8_apart_47 : decode cX8_apart 47 = .ok (.iload_n 3, 1) := by decide +kernel
theorem dX8_apart_48 : decode cX8_apart 48 = .ok (.ireturn, 1) := by decide +kernel
theorem dX8_next_0 : decode cX8_next 0 = .ok (.aload_n 0, 1) := by decide +kernel
theorem dX8_next_1 : decode cX8_next 1 = .ok (.getfield 12, 3) := by decide +kernel
theorem dX8_next_4 : decode cX8_next 4 = .ok (.iload_n 1, 1) := by decide +kernel
theorem dX8_next_5 : decode cX8_next 5 = .ok (.invokevirtual 85, 3) := by decide +kernel
theorem dX8_next_8 : decode cX8_next 8 = .ok (.ifCond .eq 14, 3) := by decide +kernel
theorem dX8_next_11 : decode cX8_next 11 = .ok (.aload_n 0, 1) := by decide +kernel
theorem dX8_next_12 : decode cX8_next 12 = .ok (.getfield 12, 3) := by decide +kernel
theorem dX8_next_15 : decode cX8_next 15 = .ok (.iload_n 2, 1) := by decide +kernel
theorem dX8_next_16 : decode cX8_next 16 = .ok (.invokevirtual 85, 3) := by decide +kernel
theorem dX8_next_19 : decode cX8_next 19 = .ok (.ifCond .ne 6, 3) := by decide +kernel
theorem dX8_next_22 : decode cX8_next 22 = .ok (.bipush (-2), 2) := by decide +kernel
theorem dX8_next_24 : decode cX8_next 24 = .ok (.ireturn, 1) := by decide +kernel
theorem dX8_next_25 : decode cX8_next 25 = .ok (.aload_n 0, 1) := by decide +kernel
theorem dX8_next_26 : decode cX8_next 26 = .ok (.getfield 12, 3) := by decide +kernel
theorem dX8_next_29 : decode cX8_next 29 = .ok (.iload_n 1, 1) := by decide +kernel
theorem dX8_next_30 : decode cX8_next 30 = .ok (.iload_n 2, 1) := by decide +kernel
theorem dX8_next_31 : decode cX8_next 31 = .ok (.invokevirtual 126, 3) := by decide +kernel
theorem dX8_next_34 : decode cX8_next 34 = .ok (.ireturn, 1) := by decide +kernel
theorem dX8_amount_0 : decode cX8_amount 0 = .ok (.aload_n 0, 1) := by decide +kernel
theorem dX8_amount_1 : decode cX8_amount 1 = .ok (.getfield 19, 3) := by decide +kernel
theorem dX8_amount_4 : decode cX8_amount 4 = .ok (.iload_n 1, 1) := by decide +kernel
theorem dX8_amount_5 : decode cX8_amount 5 = .ok (.invokevirtual 99, 3) := by decide +kernel
theorem dX8_amount_8 : decode cX8_amount 8 = .ok (.ifCond .eq 14, 3) := by decide +kernel
theorem dX8_amount_11 : decode cX8_amount 11 = .ok (.aload_n 0, 1) := by decide +kernel
theorem dX8_amount_12 : decode cX8_amount 12 = .ok (.getfield 12, 3) := by decide +kernel
theorem dX8_amount_15 : decode cX8_amount 15 = .ok (.iload_n 2, 1) := by decide +kernel
theorem dX8_amount_16 : decode cX8_amount 16 = .ok (.invokevirtual 85, 3) := by decide +kernel
theorem dX8_amount_19 : decode cX8_amount 19 = .ok (.ifCond .ne 6, 3) := by decide +kernel
theorem dX8_amount_22 : decode cX8_amount 22 = .ok (.bipush (-2), 2) := by decide +kernel
theorem dX8_amount_24 : decode cX8_amount 24 = .ok (.ireturn, 1) := by decide +kernel
theorem dX8_amount_25 : decode cX8_amount 25 = .ok (.aload_n 0, 1) := by decide +kernel
theorem dX8_amount_26 : decode cX8_amount 26 = .ok (.getfield 19, 3) := by decide +kernel
theorem dX8_amount_29 : decode cX8_amount 29 = .ok (.getfield 100, 3) := by decide +kernel
theorem dX8_amount_32 : decode cX8_amount 32 = .ok (.iload_n 1, 1) := by decide +kernel
theorem dX8_amount_33 : decode cX8_amount 33 = .ok (.aaload, 1) := by decide +kernel
theorem dX8_amount_34 : decode cX8_amount 34 = .ok (.iload_n 2, 1) := by decide +kernel
theorem dX8_amount_35 : decode cX8_amount 35 = .ok (.iaload, 1) := by decide +kernel
theorem dX8_amount_36 : decode cX8_amount 36 = .ok (.ireturn, 1) := by decide +kernel
theorem dX8_sum_0 : decode cX8_sum 0 = .ok (.aload_n 0, 1) := by decide +kernel
theorem dX8_sum_1 : decode cX8_sum 1 = .ok (.getfield 19, 3) := by decide +kernel
theorem dX8_sum_4 : decode cX8_sum 4 = .ok (.iload_n 1, 1) := by decide +kernel
theorem dX8_sum_5 : decode cX8_sum 5 = .ok (.invokevirtual 99, 3) := by decide +kernel
theorem dX8_sum_8 : decode cX8_sum 8 = .ok (.ifCond .ne 6, 3) := by decide +kernel
theorem dX8_sum_11 : decode cX8_sum 11 = .ok (.bipush (-2), 2) := by decide +kernel
theorem dX8_sum_13 : decode cX8_sum 13 = .ok (.ireturn, 1) := by decide +kernel
theorem dX8_sum_14 : decode cX8_sum 14 = .ok (.aload_n 0, 1) := by decide +kernel
theorem dX8_sum_15 : decode cX8_sum 15 = .ok (.getfield 19, 3) := by decide +kernel
theorem dX8_sum_18 : decode cX8_sum 18 = .ok (.iload_n 1, 1) := by decide +kernel
theorem dX8_sum_19 : decode cX8_sum 19 = .ok (.invokevirtual 130, 3) := by decide +kernel
theorem dX8_sum_22 : decode cX8_sum 22 = .ok (.ireturn, 1) := by decide +kernel
theorem dX8_least_0 : decode cX8_least 0 = .ok (.aload_n 0, 1) := by decide +kernel
theorem dX8_least_1 : decode cX8_least 1 = .ok (.iload_n 1, 1) := by decide +kernel
theorem dX8_least_2 : decode cX8_least 2 = .ok (.iload_n 2, 1) := by decide +kernel
theorem dX8_least_3 : decode cX8_least 3 = .ok (.invokevirtual 134, 3) := by decide +kernel
theorem dX8_least_6 : decode cX8_least 6 = .ok (.istore_n 3, 1) := by decide +kernel
theorem dX8_least_7 : decode cX8_least 7 = .ok (.iload_n 3, 1) := by decide +kernel
theorem dX8_least_8 : decode cX8_least 8 = .ok (.ifCond .ne 12, 3) := by decide +kernel
theorem dX8_least_11 : decode cX8_least 11 = .ok (.aload_n 0, 1) := by decide +kernel
theorem dX8_least_12 : decode cX8_least 12 = .ok (.iload_n 1, 1) := by decide +kernel
theorem dX8_least_13 : decode cX8_least 13 = .ok (.iload_n 2, 1) := by decide +kernel
theorem dX8_least_14 : decode cX8_least 14 = .ok (.invokevirtual 137, 3) := by decide +kernel
theorem dX8_least_17 : decode cX8_least 17 = .ok (.goto 4, 3) := by decide +kernel
theorem dX8_least_20 : decode cX8_least 20 = .ok (.iload_n 3, 1) := by decide +kernel
theorem dX8_least_21 : decode cX8_least 21 = .ok (.ireturn, 1) := by decide +kernel
theorem dX8_plan_0 : decode cX8_plan 0 = .ok (.aload_n 0, 1) := by decide +kernel
theorem dX8_plan_1 : decode cX8_plan 1 = .ok (.iload_n 1, 1) := by decide +kernel
theorem dX8_plan_2 : decode cX8_plan 2 = .ok (.iload_n 2, 1) := by decide +kernel
theorem dX8_plan_3 : decode cX8_plan 3 = .ok (.iload_n 3, 1) := by decide +kernel
theorem dX8_plan_4 : decode cX8_plan 4 = .ok (.iload 4, 2) := by decide +kernel
theorem dX8_plan_6 : decode cX8_plan 6 = .ok (.invokevirtual 140, 3) := by decide +kernel
theorem dX8_plan_9 : decode cX8_plan 9 = .ok (.istore 5, 2) := by decide +kernel
theorem dX8_plan_11 : decode cX8_plan 11 = .ok (.iload 5, 2) := by decide +kernel
theorem dX8_plan_13 : decode cX8_plan 13 = .ok (.ifCond .eq 6, 3) := by decide +kernel
theorem dX8_plan_16 : decode cX8_plan 16 = .ok (.iload 5, 2) := by decide +kernel
theorem dX8_plan_18 : decode cX8_plan 18 = .ok (.ireturn, 1) := by decide +kernel
theorem dX8_plan_19 : decode cX8_plan 19 = .ok (.aload_n 0, 1) := by decide +kernel
theorem dX8_plan_20 : decode cX8_plan 20 = .ok (.iload_n 1, 1) := by decide +kernel
theorem dX8_plan_21 : decode cX8_plan 21 = .ok (.iload_n 2, 1) := by decide +kernel
theorem dX8_plan_22 : decode cX8_plan 22 = .ok (.invokevirtual 144, 3) := by decide +kernel
theorem dX8_plan_25 : decode cX8_plan 25 = .ok (.aload_n 0, 1) := by decide +kernel
theorem dX8_plan_26 : decode cX8_plan 26 = .ok (.getfield 47, 3) := by decide +kernel
theorem dX8_plan_29 : decode cX8_plan 29 = .ok (.getfield 148, 3) := by decide +kernel
theorem dX8_plan_32 : decode cX8_plan 32 = .ok (.iload_n 3, 1) := by decide +kernel
theorem dX8_plan_33 : decode cX8_plan 33 = .ok (.aaload, 1) := by decide +kernel
theorem dX8_plan_34 : decode cX8_plan 34 = .ok (.iload 4, 2) := by decide +kernel
theorem dX8_plan_36 : decode cX8_plan 36 = .ok (.iaload, 1) := by decide +kernel
theorem dX8_plan_37 : decode cX8_plan 37 = .ok (.ireturn, 1) := by decide +kernel
theorem dX8_alone_0 : decode cX8_alone 0 = .ok (.aload_n 0, 1) := by decide +kernel
theorem dX8_alone_1 : decode cX8_alone 1 = .ok (.iload_n 1, 1) := by decide +kernel
theorem dX8_alone_2 : decode cX8_alone 2 = .ok (.iload_n 2, 1) := by decide +kernel
theorem dX8_alone_3 : decode cX8_alone 3 = .ok (.invokevirtual 134, 3) := by decide +kernel
theorem dX8_alone_6 : decode cX8_alone 6 = .ok (.istore_n 3, 1) := by decide +kernel
theorem dX8_alone_7 : decode cX8_alone 7 = .ok (.iload_n 3, 1) := by decide +kernel
theorem dX8_alone_8 : decode cX8_alone 8 = .ok (.ifCond .eq 5, 3) := by decide +kernel
theorem dX8_alone_11 : decode cX8_alone 11 = .ok (.iload_n 3, 1) := by decide +kernel
theorem dX8_alone_12 : decode cX8_alone 12 = .ok (.ireturn, 1) := by decide +kernel
theorem dX8_alone_13 : decode cX8_alone 13 = .ok (.aload_n 0, 1) := by decide +kernel
theorem dX8_alone_14 : decode cX8_alone 14 = .ok (.iload_n 1, 1) := by decide +kernel
theorem dX8_alone_15 : decode cX8_alone 15 = .ok (.iload_n 2, 1) := by decide +kernel
theorem dX8_alone_16 : decode cX8_alone 16 = .ok (.invokevirtual 144, 3) := by decide +kernel
theorem dX8_alone_19 : decode cX8_alone 19 = .ok (.aload_n 0, 1) := by decide +kernel
theorem dX8_alone_20 : decode cX8_alone 20 = .ok (.getfield 47, 3) := by decide +kernel
theorem dX8_alone_23 : decode cX8_alone 23 = .ok (.aload_n 0, 1) := by decide +kernel
theorem dX8_alone_24 : decode cX8_alone 24 = .ok (.getfield 12, 3) := by decide +kernel
theorem dX8_alone_27 : decode cX8_alone 27 = .ok (.invokevirtual 151, 3) := by decide +kernel
theorem dX8_alone_30 : decode cX8_alone 30 = .ok (.ifCond .eq 7, 3) := by decide +kernel
theorem dX8_alone_33 : decode cX8_alone 33 = .ok (.iconst 0, 1) := by decide +kernel
theorem dX8_alone_34 : decode cX8_alone 34 = .ok (.goto 4, 3) := by decide +kernel
theorem dX8_alone_37 : decode cX8_alone 37 = .ok (.iconst 1, 1) := by decide +kernel
theorem dX8_alone_38 : decode cX8_alone 38 = .ok (.ireturn, 1) := by decide +kernel
theorem dX8_height_0 : decode cX8_height 0 = .ok (.aload_n 0, 1) := by decide +kernel
theorem dX8_height_1 : decode cX8_height 1 = .ok (.iload_n 1, 1) := by decide +kernel
theorem dX8_height_2 : decode cX8_height 2 = .ok (.iload_n 2, 1) := by decide +kernel
theorem dX8_height_3 : decode cX8_height 3 = .ok (.iload_n 3, 1) := by decide +kernel
theorem dX8_height_4 : decode cX8_height 4 = .ok (.iload_n 3, 1) := by decide +kernel
theorem dX8_height_5 : decode cX8_height 5 = .ok (.invokevirtual 140, 3) := by decide +kernel
theorem dX8_height_8 : decode cX8_height 8 = .ok (.ifCond .eq 6, 3) := by decide +kernel
theorem dX8_height_11 : decode cX8_height 11 = .ok (.ldc 155, 2) := by decide +kernel
theorem dX8_height_13 : decode cX8_height 13 = .ok (.ireturn, 1) := by decide +kernel
theorem dX8_height_14 : decode cX8_height 14 = .ok (.aload_n 0, 1) := by decide +kernel
theorem dX8_height_15 : decode cX8_height 15 = .ok (.iload_n 1, 1) := by decide +kernel
theorem dX8_height_16 : decode cX8_height 16 = .ok (.iload_n 2, 1) := by decide +kernel
theorem dX8_height_17 : decode cX8_height 17 = .ok (.invokevirtual 144, 3) := by decide +kernel
theorem dX8_height_20 : decode cX8_height 20 = .ok (.aload_n 0, 1) := by decide +kernel
theorem dX8_height_21 : decode cX8_height 21 = .ok (.getfield 47, 3) := by decide +kernel
theorem dX8_height_24 : decode cX8_height 24 = .ok (.getfield 156, 3) := by decide +kernel
theorem dX8_height_27 : decode cX8_height 27 = .ok (.iload_n 3, 1) := by decide +kernel
theorem dX8_height_28 : decode cX8_height 28 = .ok (.iaload, 1) := by decide +kernel
theorem dX8_height_29 : decode cX8_height 29 = .ok (.ireturn, 1) := by decide +kernel
theorem dX8_load_0 : decode cX8_load 0 = .ok (.aload_n 0, 1) := by decide +kernel
theorem dX8_load_1 : decode cX8_load 1 = .ok (.iload_n 1, 1) := by decide +kernel
theorem dX8_load_2 : decode cX8_load 2 = .ok (.iload_n 2, 1) := by decide +kernel
theorem dX8_load_3 : decode cX8_load 3 = .ok (.iload_n 3, 1) := by decide +kernel
theorem dX8_load_4 : decode cX8_load 4 = .ok (.iload 4, 2) := by decide +kernel
theorem dX8_load_6 : decode cX8_load 6 = .ok (.invokevirtual 140, 3) := by decide +kernel
theorem dX8_load_9 : decode cX8_load 9 = .ok (.istore 5, 2) := by decide +kernel
theorem dX8_load_11 : decode cX8_load 11 = .ok (.iload 5, 2) := by decide +kernel
theorem dX8_load_13 : decode cX8_load 13 = .ok (.ifCond .eq 6, 3) := by decide +kernel
theorem dX8_load_16 : decode cX8_load 16 = .ok (.iload 5, 2) := by decide +kernel
theorem dX8_load_18 : decode cX8_load 18 = .ok (.ireturn, 1) := by decide +kernel
theorem dX8_load_19 : decode cX8_load 19 = .ok (.aload_n 0, 1) := by decide +kernel
theorem dX8_load_20 : decode cX8_load 20 = .ok (.iload_n 1, 1) := by decide +kernel
theorem dX8_load_21 : decode cX8_load 21 = .ok (.iload_n 2, 1) := by decide +kernel
theorem dX8_load_22 : decode cX8_load 22 = .ok (.invokevirtual 144, 3) := by decide +kernel
theorem dX8_load_25 : decode cX8_load 25 = .ok (.aload_n 0, 1) := by decide +kernel
theorem dX8_load_26 : decode cX8_load 26 = .ok (.getfield 47, 3) := by decide +kernel
theorem dX8_load_29 : decode cX8_load 29 = .ok (.aload_n 0, 1) := by decide +kernel
theorem dX8_load_30 : decode cX8_load 30 = .ok (.getfield 12, 3) := by decide +kernel
theorem dX8_load_33 : decode cX8_load 33 = .ok (.iload_n 3, 1) := by decide +kernel
theorem dX8_load_34 : decode cX8_load 34 = .ok (.iload 4, 2) := by decide +kernel
theorem dX8_load_36 : decode cX8_load 36 = .ok (.invokevirtual 159, 3) := by decide +kernel
theorem dX8_load_39 : decode cX8_load 39 = .ok (.ireturn, 1) := by decide +kernel
theorem dX8_far_0 : decode cX8_far 0 = .ok (.aload_n 0, 1) := by decide +kernel
theorem dX8_far_1 : decode cX8_far 1 = .ok (.iload_n 1, 1) := by decide +kernel
theorem dX8_far_2 : decode cX8_far 2 = .ok (.iload_n 2, 1) := by decide +kernel
theorem dX8_far_3 : decode cX8_far 3 = .ok (.invokevirtual 134, 3) := by decide +kernel
theorem dX8_far_6 : decode cX8_far 6 = .ok (.istore_n 3, 1) := by decide +kernel
theorem dX8_far_7 : decode cX8_far 7 = .ok (.iload_n 3, 1) := by decide +kernel
theorem dX8_far_8 : decode cX8_far 8 = .ok (.ifCond .eq 5, 3) := by decide +kernel
theorem dX8_far_11 : decode cX8_far 11 = .ok (.iload_n 3, 1) := by decide +kernel
theorem dX8_far_12 : decode cX8_far 12 = .ok (.ireturn, 1) := by decide +kernel
theorem dX8_far_13 : decode cX8_far 13 = .ok (.aload_n 0, 1) := by decide +kernel
theorem dX8_far_14 : decode cX8_far 14 = .ok (.iload_n 1, 1) := by decide +kernel
theorem dX8_far_15 : decode cX8_far 15 = .ok (.iload_n 2, 1) := by decide +kernel
theorem dX8_far_16 : decode cX8_far 16 = .ok (.invokevirtual 163, 3) := by decide +kernel
theorem dX8_far_19 : decode cX8_far 19 = .ok (.aload_n 0, 1) := by decide +kernel
theorem dX8_far_20 : decode cX8_far 20 = .ok (.getfield 54, 3) := by decide +kernel
theorem dX8_far_23 : decode cX8_far 23 = .ok (.getfield 166, 3) := by decide +kernel
theorem dX8_far_26 : decode cX8_far 26 = .ok (.ireturn, 1) := by decide +kernel
theorem dX8_shown_0 : decode cX8_shown 0 = .ok (.aload_n 0, 1) := by decide +kernel
theorem dX8_shown_1 : decode cX8_shown 1 = .ok (.iload_n 1, 1) := by decide +kernel
theorem dX8_shown_2 : decode cX8_shown 2 = .ok (.iload_n 2, 1) := by decide +kernel
theorem dX8_shown_3 : decode cX8_shown 3 = .ok (.iload_n 3, 1) := by decide +kernel
theorem dX8_shown_4 : decode cX8_shown 4 = .ok (.iload_n 3, 1) := by decide +kernel
theorem dX8_shown_5 : decode cX8_shown 5 = .ok (.invokevirtual 140, 3) := by decide +kernel
theorem dX8_shown_8 : decode cX8_shown 8 = .ok (.istore 4, 2) := by decide +kernel
theorem dX8_shown_10 : decode cX8_shown 10 = .ok (.iload 4, 2) := by decide +kernel
theorem dX8_shown_12 : decode cX8_shown 12 = .ok (.ifCond .eq 6, 3) := by decide +kernel
theorem dX8_shown_15 : decode cX8_shown 15 = .ok (.iload 4, 2) := by decide +kernel
theorem dX8_shown_17 : decode cX8_shown 17 = .ok (.ireturn, 1) := by decide +kernel
theorem dX8_shown_18 : decode cX8_shown 18 = .ok (.aload_n 0, 1) := by decide +kernel
theorem dX8_shown_19 : decode cX8_shown 19 = .ok (.iload_n 1, 1) := by decide +kernel
theorem dX8_shown_20 : decode cX8_shown 20 = .ok (.iload_n 2, 1) := by decide +kernel
theorem dX8_shown_21 : decode cX8_shown 21 = .ok (.invokevirtual 163, 3) := by decide +kernel
theorem dX8_shown_24 : decode cX8_shown 24 = .ok (.aload_n 0, 1) := by decide +kernel
theorem dX8_shown_25 : decode cX8_shown 25 = .ok (.getfield 54, 3) := by decide +kernel
theorem dX8_shown_28 : decode cX8_shown 28 = .ok (.getfield 169, 3) := by decide +kernel
theorem dX8_shown_31 : decode cX8_shown 31 = .ok (.iload_n 3, 1) := by decide +kernel
theorem dX8_shown_32 : decode cX8_shown 32 = .ok (.iaload, 1) := by decide +kernel
theorem dX8_shown_33 : decode cX8_shown 33 = .ok (.ireturn, 1) := by decide +kernel
theorem dX8_some_0 : decode cX8_some 0 = .ok (.aload_n 0, 1) := by decide +kernel
theorem dX8_some_1 : decode cX8_some 1 = .ok (.getfield 19, 3) := by decide +kernel
theorem dX8_some_4 : decode cX8_some 4 = .ok (.iload_n 1, 1) := by decide +kernel
theorem dX8_some_5 : decode cX8_some 5 = .ok (.invokevirtual 99, 3) := by decide +kernel
theorem dX8_some_8 : decode cX8_some 8 = .ok (.ifCond .eq 14, 3) := by decide +kernel
theorem dX8_some_11 : decode cX8_some 11 = .ok (.aload_n 0, 1) := by decide +kernel
theorem dX8_some_12 : decode cX8_some 12 = .ok (.getfield 19, 3) := by decide +kernel
theorem dX8_some_15 : decode cX8_some 15 = .ok (.iload_n 2, 1) := by decide +kernel
theorem dX8_some_16 : decode cX8_some 16 = .ok (.invokevirtual 99, 3) := by decide +kernel
theorem dX8_some_19 : decode cX8_some 19 = .ok (.ifCond .ne 6, 3) := by decide +kernel
theorem dX8_some_22 : decode cX8_some 22 = .ok (.bipush (-2), 2) := by decide +kernel
theorem dX8_some_24 : decode cX8_some 24 = .ok (.ireturn, 1) := by decide +kernel
theorem dX8_some_25 : decode cX8_some 25 = .ok (.iload_n 3, 1) := by decide +kernel
theorem dX8_some_26 : decode cX8_some 26 = .ok (.ifCond .lt 26, 3) := by decide +kernel
theorem dX8_some_29 : decode cX8_some 29 = .ok (.iload_n 3, 1) := by decide +kernel
theorem dX8_some_30 : decode cX8_some 30 = .ok (.aload_n 0, 1) := by decide +kernel
theorem dX8_some_31 : decode cX8_some 31 = .ok (.getfield 19, 3) := by decide +kernel
theorem dX8_some_34 : decode cX8_some 34 = .ok (.iload_n 1, 1) := by decide +kernel
theorem dX8_some_35 : decode cX8_some 35 = .ok (.invokevirtual 130, 3) := by decide +kernel
theorem dX8_some_38 : decode cX8_some 38 = .ok (.aload_n 0, 1) := by decide +kernel
theorem dX8_some_39 : decode cX8_some 39 = .ok (.getfield 19, 3) := by decide +kernel
theorem dX8_some_42 : decode cX8_some 42 = .ok (.iload_n 2, 1) := by decide +kernel
theorem dX8_some_43 : decode cX8_some 43 = .ok (.invokevirtual 130, 3) := by decide +kernel
theorem dX8_some_46 : decode cX8_some 46 = .ok (.invokestatic 172, 3) := by decide +kernel
theorem dX8_some_49 : decode cX8_some 49 = .ok (.if_icmp .le 6, 3) := by decide +kernel
theorem dX8_some_52 : decode cX8_some 52 = .ok (.bipush (-3), 2) := by decide +kernel
theorem dX8_some_54 : decode cX8_some 54 = .ok (.ireturn, 1) := by decide +kernel
theorem dX8_some_55 : decode cX8_some 55 = .ok (.aload_n 0, 1) := by decide +kernel
theorem dX8_some_56 : decode cX8_some 56 = .ok (.getfield 12, 3) := by decide +kernel
theorem dX8_some_59 : decode cX8_some 59 = .ok (.invokevirtual 177, 3) := by decide +kernel
theorem dX8_some_62 : decode cX8_some 62 = .ok (.ifCond .ne 6, 3) := by decide +kernel
theorem dX8_some_65 : decode cX8_some 65 = .ok (.bipush (-4), 2) := by decide +kernel
theorem dX8_some_67 : decode cX8_some 67 = .ok (.ireturn, 1) := by decide +kernel
theorem dX8_some_68 : decode cX8_some 68 = .ok (.aload_n 0, 1) := by decide +kernel
theorem dX8_some_69 : decode cX8_some 69 = .ok (.getfield 40, 3) := by decide +kernel
theorem dX8_some_72 : decode cX8_some 72 = .ok (.aload_n 0, 1) := by decide +kernel
theorem dX8_some_73 : decode cX8_some 73 = .ok (.getfield 12, 3) := by decide +kernel
theorem dX8_some_76 : decode cX8_some 76 = .ok (.aload_n 0, 1) := by decide +kernel
theorem dX8_some_77 : decode cX8_some 77 = .ok (.getfield 19, 3) := by decide +kernel
theorem dX8_some_80 : decode cX8_some 80 = .ok (.getfield 100, 3) := by decide +kernel
theorem dX8_some_83 : decode cX8_some 83 = .ok (.iload_n 1, 1) := by decide +kernel
theorem dX8_some_84 : decode cX8_some 84 = .ok (.aaload, 1) := by decide +kernel
theorem dX8_some_85 : decode cX8_some 85 = .ok (.aload_n 0, 1) := by decide +kernel
theorem dX8_some_86 : decode cX8_some 86 = .ok (.getfield 19, 3) := by decide +kernel
theorem dX8_some_89 : decode cX8_some 89 = .ok (.getfield 100, 3) := by decide +kernel
theorem dX8_some_92 : decode cX8_some 92 = .ok (.iload_n 2, 1) := by decide +kernel
theorem dX8_some_93 : decode cX8_some 93 = .ok (.aaload, 1) := by decide +kernel
theorem dX8_some_94 : decode cX8_some 94 = .ok (.iload_n 3, 1) := by decide +kernel
theorem dX8_some_95 : decode cX8_some 95 = .ok (.invokevirtual 181, 3) := by decide +kernel
theorem dX8_some_98 : decode cX8_some 98 = .ok (.ireturn, 1) := by decide +kernel
theorem dX8_gated_0 : decode cX8_gated 0 = .ok (.aload_n 0, 1) := by decide +kernel
theorem dX8_gated_1 : decode cX8_gated 1 = .ok (.iload_n 1, 1) := by decide +kernel
theorem dX8_gated_2 : decode cX8_gated 2 = .ok (.iload_n 2, 1) := by decide +kernel
theorem dX8_gated_3 : decode cX8_gated 3 = .ok (.invokevirtual 134, 3) := by decide +kernel
theorem dX8_gated_6 : decode cX8_gated 6 = .ok (.istore_n 3, 1) := by decide +kernel
theorem dX8_gated_7 : decode cX8_gated 7 = .ok (.iload_n 3, 1) := by decide +kernel
theorem dX8_gated_8 : decode cX8_gated 8 = .ok (.ifCond .eq 5, 3) := by decide +kernel
theorem dX8_gated_11 : decode cX8_gated 11 = .ok (.iload_n 3, 1) := by decide +kernel
theorem dX8_gated_12 : decode cX8_gated 12 = .ok (.ireturn, 1) := by decide +kernel
theorem dX8_gated_13 : decode cX8_gated 13 = .ok (.aload_n 0, 1) := by decide +kernel
theorem dX8_gated_14 : decode cX8_gated 14 = .ok (.getfield 40, 3) := by decide +kernel
theorem dX8_gated_17 : decode cX8_gated 17 = .ok (.aload_n 0, 1) := by decide +kernel
theorem dX8_gated_18 : decode cX8_gated 18 = .ok (.getfield 12, 3) := by decide +kernel
theorem dX8_gated_21 : decode cX8_gated 21 = .ok (.aload_n 0, 1) := by decide +kernel
theorem dX8_gated_22 : decode cX8_gated 22 = .ok (.getfield 19, 3) := by decide +kernel
theorem dX8_gated_25 : decode cX8_gated 25 = .ok (.getfield 100, 3) := by decide +kernel
theorem dX8_gated_28 : decode cX8_gated 28 = .ok (.iload_n 1, 1) := by decide +kernel
theorem dX8_gated_29 : decode cX8_gated 29 = .ok (.aaload, 1) := by decide +kernel
theorem dX8_gated_30 : decode cX8_gated 30 = .ok (.aload_n 0, 1) := by decide +kernel
theorem dX8_gated_31 : decode cX8_gated 31 = .ok (.getfield 19, 3) := by decide +kernel
theorem dX8_gated_34 : decode cX8_gated 34 = .ok (.getfield 100, 3) := by decide +kernel
theorem dX8_gated_37 : decode cX8_gated 37 = .ok (.iload_n 2, 1) := by decide +kernel
theorem dX8_gated_38 : decode cX8_gated 38 = .ok (.aaload, 1) := by decide +kernel
theorem dX8_gated_39 : decode cX8_gated 39 = .ok (.invokevirtual 185, 3) := by decide +kernel
theorem dX8_gated_42 : decode cX8_gated 42 = .ok (.ireturn, 1) := by decide +kernel
theorem dX8_draft_0 : decode cX8_draft 0 = .ok (.aload_n 0, 1) := by decide +kernel
theorem dX8_draft_1 : decode cX8_draft 1 = .ok (.getfield 12, 3) := by decide +kernel
theorem dX8_draft_4 : decode cX8_draft 4 = .ok (.iload_n 1, 1) := by decide +kernel
theorem dX8_draft_5 : decode cX8_draft 5 = .ok (.invokevirtual 85, 3) := by decide +kernel
theorem dX8_draft_8 : decode cX8_draft 8 = .ok (.ifCond .eq 14, 3) := by decide +kernel
theorem dX8_draft_11 : decode cX8_draft 11 = .ok (.aload_n 0, 1) := by decide +kernel
theorem dX8_draft_12 : decode cX8_draft 12 = .ok (.getfield 12, 3) := by decide +kernel
theorem dX8_draft_15 : decode cX8_draft 15 = .ok (.iload_n 2, 1) := by decide +kernel
theorem dX8_draft_16 : decode cX8_draft 16 = .ok (.invokevirtual 85, 3) := by decide +kernel
theorem dX8_draft_19 : decode cX8_draft 19 = .ok (.ifCond .ne 6, 3) := by decide +kernel
theorem dX8_draft_22 : decode cX8_draft 22 = .ok (.bipush (-2), 2) := by decide +kernel
theorem dX8_draft_24 : decode cX8_draft 24 = .ok (.ireturn, 1) := by decide +kernel
theorem dX8_draft_25 : decode cX8_draft 25 = .ok (.iload_n 3, 1) := by decide +kernel
theorem dX8_draft_26 : decode cX8_draft 26 = .ok (.ifCond .lt 10, 3) := by decide +kernel
theorem dX8_draft_29 : decode cX8_draft 29 = .ok (.iload_n 3, 1) := by decide +kernel
theorem dX8_draft_30 : decode cX8_draft 30 = .ok (.sipush 10000, 3) := by decide +kernel
theorem dX8_draft_33 : decode cX8_draft 33 = .ok (.if_icmp .le 6, 3) := by decide +kernel
theorem dX8_draft_36 : decode cX8_draft 36 = .ok (.bipush (-3), 2) := by decide +kernel
theorem dX8_draft_38 : decode cX8_draft 38 = .ok (.ireturn, 1) := by decide +kernel
theorem dX8_draft_39 : decode cX8_draft 39 = .ok (.aload_n 0, 1) := by decide +kernel
theorem dX8_draft_40 : decode cX8_draft 40 = .ok (.getfield 33, 3) := by decide +kernel
theorem dX8_draft_43 : decode cX8_draft 43 = .ok (.getfield 189, 3) := by decide +kernel
theorem dX8_draft_46 : decode cX8_draft 46 = .ok (.iload_n 1, 1) := by decide +kernel
theorem dX8_draft_47 : decode cX8_draft 47 = .ok (.aaload, 1) := by decide +kernel
theorem dX8_draft_48 : decode cX8_draft 48 = .ok (.iload_n 2, 1) := by decide +kernel
theorem dX8_draft_49 : decode cX8_draft 49 = .ok (.iaload, 1) := by decide +kernel
theorem dX8_draft_50 : decode cX8_draft 50 = .ok (.istore 4, 2) := by decide +kernel
theorem dX8_draft_52 : decode cX8_draft 52 = .ok (.aload_n 0, 1) := by decide +kernel
theorem dX8_draft_53 : decode cX8_draft 53 = .ok (.getfield 33, 3) := by decide +kernel
theorem dX8_draft_56 : decode cX8_draft 56 = .ok (.getfield 189, 3) := by decide +kernel
theorem dX8_draft_59 : decode cX8_draft 59 = .ok (.iload_n 1, 1) := by decide +kernel
theorem dX8_draft_60 : decode cX8_draft 60 = .ok (.aaload, 1) := by decide +kernel
theorem dX8_draft_61 : decode cX8_draft 61 = .ok (.iload_n 2, 1) := by decide +kernel
theorem dX8_draft_62 : decode cX8_draft 62 = .ok (.iload_n 3, 1) := by decide +kernel
theorem dX8_draft_63 : decode cX8_draft 63 = .ok (.iastore, 1) := by decide +kernel
theorem dX8_draft_64 : decode cX8_draft 64 = .ok (.iload 4, 2) := by decide +kernel
theorem dX8_draft_66 : decode cX8_draft 66 = .ok (.ireturn, 1) := by decide +kernel
theorem dX8_clear_0 : decode cX8_clear 0 = .ok (.aload_n 0, 1) := by decide +kernel
theorem dX8_clear_1 : decode cX8_clear 1 = .ok (.getfield 33, 3) := by decide +kernel
theorem dX8_clear_4 : decode cX8_clear 4 = .ok (.invokevirtual 192, 3) := by decide +kernel
theorem dX8_clear_7 : decode cX8_clear 7 = .ok (.istore_n 1, 1) := by decide +kernel
theorem dX8_clear_8 : decode cX8_clear 8 = .ok (.aload_n 0, 1) := by decide +kernel
theorem dX8_clear_9 : decode cX8_clear 9 = .ok (.getfield 33, 3) := by decide +kernel
theorem dX8_clear_12 : decode cX8_clear 12 = .ok (.invokevirtual 195, 3) := by decide +kernel
theorem dX8_clear_15 : decode cX8_clear 15 = .ok (.iload_n 1, 1) := by decide +kernel
theorem dX8_clear_16 : decode cX8_clear 16 = .ok (.ireturn, 1) := by decide +kernel
theorem dX8_copy_0 : decode cX8_copy 0 = .ok (.aload_n 0, 1) := by decide +kernel
theorem dX8_copy_1 : decode cX8_copy 1 = .ok (.iload_n 1, 1) := by decide +kernel
theorem dX8_copy_2 : decode cX8_copy 2 = .ok (.iload_n 2, 1) := by decide +kernel
theorem dX8_copy_3 : decode cX8_copy 3 = .ok (.invokevirtual 134, 3) := by decide +kernel
theorem dX8_copy_6 : decode cX8_copy 6 = .ok (.istore_n 3, 1) := by decide +kernel
theorem dX8_copy_7 : decode cX8_copy 7 = .ok (.iload_n 3, 1) := by decide +kernel
theorem dX8_copy_8 : decode cX8_copy 8 = .ok (.ifCond .eq 5, 3) := by decide +kernel
theorem dX8_copy_11 : decode cX8_copy 11 = .ok (.iload_n 3, 1) := by decide +kernel
theorem dX8_copy_12 : decode cX8_copy 12 = .ok (.ireturn, 1) := by decide +kernel
theorem dX8_copy_13 : decode cX8_copy 13 = .ok (.aload_n 0, 1) := by decide +kernel
theorem dX8_copy_14 : decode cX8_copy 14 = .ok (.iload_n 1, 1) := by decide +kernel
theorem dX8_copy_15 : decode cX8_copy 15 = .ok (.iload_n 2, 1) := by decide +kernel
theorem dX8_copy_16 : decode cX8_copy 16 = .ok (.invokevirtual 144, 3) := by decide +kernel
theorem dX8_copy_19 : decode cX8_copy 19 = .ok (.iconst 0, 1) := by decide +kernel
theorem dX8_copy_20 : decode cX8_copy 20 = .ok (.istore 4, 2) := by decide +kernel
theorem dX8_copy_22 : decode cX8_copy 22 = .ok (.iload 4, 2) := by decide +kernel
theorem dX8_copy_24 : decode cX8_copy 24 = .ok (.aload_n 0, 1) := by decide +kernel
theorem dX8_copy_25 : decode cX8_copy 25 = .ok (.getfield 12, 3) := by decide +kernel
theorem dX8_copy_28 : decode cX8_copy 28 = .ok (.getfield 74, 3) := by decide +kernel
theorem dX8_copy_31 : decode cX8_copy 31 = .ok (.if_icmp .ge 56, 3) := by decide +kernel
theorem dX8_copy_34 : decode cX8_copy 34 = .ok (.iconst 0, 1) := by decide +kernel
theorem dX8_copy_35 : decode cX8_copy 35 = .ok (.istore 5, 2) := by decide +kernel
theorem dX8_copy_37 : decode cX8_copy 37 = .ok (.iload 5, 2) := by decide +kernel
theorem dX8_copy_39 : decode cX8_copy 39 = .ok (.aload_n 0, 1) := by decide +kernel
theorem dX8_copy_40 : decode cX8_copy 40 = .ok (.getfield 12, 3) := by decide +kernel
theorem dX8_copy_43 : decode cX8_copy 43 = .ok (.getfield 74, 3) := by decide +kernel
theorem dX8_copy_46 : decode cX8_copy 46 = .ok (.if_icmp .ge 35, 3) := by decide +kernel
theorem dX8_copy_49 : decode cX8_copy 49 = .ok (.aload_n 0, 1) := by decide +kernel
theorem dX8_copy_50 : decode cX8_copy 50 = .ok (.getfield 33, 3) := by decide +kernel
theorem dX8_copy_53 : decode cX8_copy 53 = .ok (.getfield 189, 3) := by decide +kernel
theorem dX8_copy_56 : decode cX8_copy 56 = .ok (.iload 4, 2) := by decide +kernel
theorem dX8_copy_58 : decode cX8_copy 58 = .ok (.aaload, 1) := by decide +kernel
theorem dX8_copy_59 : decode cX8_copy 59 = .ok (.iload 5, 2) := by decide +kernel
theorem dX8_copy_61 : decode cX8_copy 61 = .ok (.aload_n 0, 1) := by decide +kernel
theorem dX8_copy_62 : decode cX8_copy 62 = .ok (.getfield 47, 3) := by decide +kernel
theorem dX8_copy_65 : decode cX8_copy 65 = .ok (.getfield 148, 3) := by decide +kernel
theorem dX8_copy_68 : decode cX8_copy 68 = .ok (.iload 4, 2) := by decide +kernel
theorem dX8_copy_70 : decode cX8_copy 70 = .ok (.aaload, 1) := by decide +kernel
theorem dX8_copy_71 : decode cX8_copy 71 = .ok (.iload 5, 2) := by decide +kernel
theorem dX8_copy_73 : decode cX8_copy 73 = .ok (.iaload, 1) := by decide +kernel
theorem dX8_copy_74 : decode cX8_copy 74 = .ok (.iastore, 1) := by decide +kernel
theorem dX8_copy_75 : decode cX8_copy 75 = .ok (.iinc 5 1, 3) := by decide +kernel
theorem dX8_copy_78 : decode cX8_copy 78 = .ok (.goto (-41), 3) := by decide +kernel
theorem dX8_copy_81 : decode cX8_copy 81 = .ok (.iinc 4 1, 3) := by decide +kernel
theorem dX8_copy_84 : decode cX8_copy 84 = .ok (.goto (-62), 3) := by decide +kernel
theorem dX8_copy_87 : decode cX8_copy 87 = .ok (.aload_n 0, 1) := by decide +kernel
theorem dX8_copy_88 : decode cX8_copy 88 = .ok (.getfield 33, 3) := by decide +kernel
theorem dX8_copy_91 : decode cX8_copy 91 = .ok (.invokevirtual 192, 3) := by decide +kernel
theorem dX8_copy_94 : decode cX8_copy 94 = .ok (.ireturn, 1) := by decide +kernel
theorem dX8_judge_0 : decode cX8_judge 0 = .ok (.aload_n 0, 1) := by decide +kernel
theorem dX8_judge_1 : decode cX8_judge 1 = .ok (.iload_n 1, 1) := by decide +kernel
theorem dX8_judge_2 : decode cX8_judge 2 = .ok (.iload_n 2, 1) := by decide +kernel
theorem dX8_judge_3 : decode cX8_judge 3 = .ok (.invokevirtual 134, 3) := by decide +kernel
theorem dX8_judge_6 : decode cX8_judge 6 = .ok (.istore_n 3, 1) := by decide +kernel
theorem dX8_judge_7 : decode cX8_judge 7 = .ok (.iload_n 3, 1) := by decide +kernel
theorem dX8_judge_8 : decode cX8_judge 8 = .ok (.ifCond .eq 5, 3) := by decide +kernel
theorem dX8_judge_11 : decode cX8_judge 11 = .ok (.iload_n 3, 1) := by decide +kernel
theorem dX8_judge_12 : decode cX8_judge 12 = .ok (.ireturn, 1) := by decide +kernel
theorem dX8_judge_13 : decode cX8_judge 13 = .ok (.aload_n 0, 1) := by decide +kernel
theorem dX8_judge_14 : decode cX8_judge 14 = .ok (.getfield 33, 3) := by decide +kernel
theorem dX8_judge_17 : decode cX8_judge 17 = .ok (.aload_n 0, 1) := by decide +kernel
theorem dX8_judge_18 : decode cX8_judge 18 = .ok (.getfield 12, 3) := by decide +kernel
theorem dX8_judge_21 : decode cX8_judge 21 = .ok (.getfield 74, 3) := by decide +kernel
theorem dX8_judge_24 : decode cX8_judge 24 = .ok (.aload_n 0, 1) := by decide +kernel
theorem dX8_judge_25 : decode cX8_judge 25 = .ok (.getfield 19, 3) := by decide +kernel
theorem dX8_judge_28 : decode cX8_judge 28 = .ok (.getfield 100, 3) := by decide +kernel
theorem dX8_judge_31 : decode cX8_judge 31 = .ok (.iload_n 1, 1) := by decide +kernel
theorem dX8_judge_32 : decode cX8_judge 32 = .ok (.aaload, 1) := by decide +kernel
theorem dX8_judge_33 : decode cX8_judge 33 = .ok (.invokevirtual 198, 3) := by decide +kernel
theorem dX8_judge_36 : decode cX8_judge 36 = .ok (.istore 4, 2) := by decide +kernel
theorem dX8_judge_38 : decode cX8_judge 38 = .ok (.iload 4, 2) := by decide +kernel
theorem dX8_judge_40 : decode cX8_judge 40 = .ok (.iconst (-1), 1) := by decide +kernel
theorem dX8_judge_41 : decode cX8_judge 41 = .ok (.if_icmp .eq 11, 3) := by decide +kernel
theorem dX8_judge_44 : decode cX8_judge 44 = .ok (.aload_n 0, 1) := by decide +kernel
theorem dX8_judge_45 : decode cX8_judge 45 = .ok (.iload 4, 2) := by decide +kernel
theorem dX8_judge_47 : decode cX8_judge 47 = .ok (.putfield 71, 3) := by decide +kernel
theorem dX8_judge_50 : decode cX8_judge 50 = .ok (.iconst 1, 1) := by decide +kernel
theorem dX8_judge_51 : decode cX8_judge 51 = .ok (.ireturn, 1) := by decide +kernel
theorem dX8_judge_52 : decode cX8_judge 52 = .ok (.aload_n 0, 1) := by decide +kernel
theorem dX8_judge_53 : decode cX8_judge 53 = .ok (.getfield 33, 3) := by decide +kernel
theorem dX8_judge_56 : decode cX8_judge 56 = .ok (.aload_n 0, 1) := by decide +kernel
theorem dX8_judge_57 : decode cX8_judge 57 = .ok (.getfield 12, 3) := by decide +kernel
theorem dX8_judge_60 : decode cX8_judge 60 = .ok (.getfield 74, 3) := by decide +kernel
theorem dX8_judge_63 : decode cX8_judge 63 = .ok (.aload_n 0, 1) := by decide +kernel
theorem dX8_judge_64 : decode cX8_judge 64 = .ok (.getfield 19, 3) := by decide +kernel
theorem dX8_judge_67 : decode cX8_judge 67 = .ok (.getfield 100, 3) := by decide +kernel
theorem dX8_judge_70 : decode cX8_judge 70 = .ok (.iload_n 2, 1) := by decide +kernel
theorem dX8_judge_71 : decode cX8_judge 71 = .ok (.aaload, 1) := by decide +kernel
theorem dX8_judge_72 : decode cX8_judge 72 = .ok (.invokevirtual 202, 3) := by decide +kernel
theorem dX8_judge_75 : decode cX8_judge 75 = .ok (.istore 4, 2) := by decide +kernel
theorem dX8_judge_77 : decode cX8_judge 77 = .ok (.iload 4, 2) := by decide +kernel
theorem dX8_judge_79 : decode cX8_judge 79 = .ok (.iconst (-1), 1) := by decide +kernel
theorem dX8_judge_80 : decode cX8_judge 80 = .ok (.if_icmp .eq 11, 3) := by decide +kernel
theorem dX8_judge_83 : decode cX8_judge 83 = .ok (.aload_n 0, 1) := by decide +kernel
theorem dX8_judge_84 : decode cX8_judge 84 = .ok (.iload 4, 2) := by decide +kernel
theorem dX8_judge_86 : decode cX8_judge 86 = .ok (.putfield 71, 3) := by decide +kernel
theorem dX8_judge_89 : decode cX8_judge 89 = .ok (.iconst 2, 1) := by decide +kernel
theorem dX8_judge_90 : decode cX8_judge 90 = .ok (.ireturn, 1) := by decide +kernel
theorem dX8_judge_91 : decode cX8_judge 91 = .ok (.aload_n 0, 1) := by decide +kernel
theorem dX8_judge_92 : decode cX8_judge 92 = .ok (.aload_n 0, 1) := by decide +kernel
theorem dX8_judge_93 : decode cX8_judge 93 = .ok (.getfield 33, 3) := by decide +kernel
theorem dX8_judge_96 : decode cX8_judge 96 = .ok (.aload_n 0, 1) := by decide +kernel
theorem dX8_judge_97 : decode cX8_judge 97 = .ok (.getfield 12, 3) := by decide +kernel
theorem dX8_judge_100 : decode cX8_judge 100 = .ok (.invokevirtual 205, 3) := by decide +kernel
theorem dX8_judge_103 : decode cX8_judge 103 = .ok (.aload_n 0, 1) := by decide +kernel
theorem dX8_judge_104 : decode cX8_judge 104 = .ok (.iload_n 1, 1) := by decide +kernel
theorem dX8_judge_105 : decode cX8_judge 105 = .ok (.iload_n 2, 1) := by decide +kernel
theorem dX8_judge_106 : decode cX8_judge 106 = .ok (.invokevirtual 137, 3) := by decide +kernel
theorem dX8_judge_109 : decode cX8_judge 109 = .ok (.isub, 1) := by decide +kernel
theorem dX8_judge_110 : decode cX8_judge 110 = .ok (.putfield 71, 3) := by decide +kernel
theorem dX8_judge_113 : decode cX8_judge 113 = .ok (.aload_n 0, 1) := by decide +kernel
theorem dX8_judge_114 : decode cX8_judge 114 = .ok (.getfield 71, 3) := by decide +kernel
theorem dX8_judge_117 : decode cX8_judge 117 = .ok (.ifCond .le 7, 3) := by decide +kernel
theorem dX8_judge_120 : decode cX8_judge 120 = .ok (.iconst 3, 1) := by decide +kernel
theorem dX8_judge_121 : decode cX8_judge 121 = .ok (.goto 4, 3) := by decide +kernel
theorem dX8_judge_124 : decode cX8_judge 124 = .ok (.iconst 0, 1) := by decide +kernel
theorem dX8_judge_125 : decode cX8_judge 125 = .ok (.ireturn, 1) := by decide +kernel
theorem dX8_beside_0 : decode cX8_beside 0 = .ok (.aload_n 0, 1) := by decide +kernel
theorem dX8_beside_1 : decode cX8_beside 1 = .ok (.getfield 71, 3) := by decide +kernel
theorem dX8_beside_4 : decode cX8_beside 4 = .ok (.ireturn, 1) := by decide +kernel
theorem dX8_count_0 : decode cX8_count 0 = .ok (.iload_n 1, 1) := by decide +kernel
theorem dX8_count_1 : decode cX8_count 1 = .ok (.tableswitch 95 0 5 #[39, 47, 55, 63, 71, 79], 39) := by decide +kernel
theorem dX8_count_40 : decode cX8_count 40 = .ok (.aload_n 0, 1) := by decide +kernel
theorem dX8_count_41 : decode cX8_count 41 = .ok (.getfield 12, 3) := by decide +kernel
theorem dX8_count_44 : decode cX8_count 44 = .ok (.getfield 74, 3) := by decide +kernel
theorem dX8_count_47 : decode cX8_count 47 = .ok (.ireturn, 1) := by decide +kernel
theorem dX8_count_48 : decode cX8_count 48 = .ok (.aload_n 0, 1) := by decide +kernel
theorem dX8_count_49 : decode cX8_count 49 = .ok (.getfield 12, 3) := by decide +kernel
theorem dX8_count_52 : decode cX8_count 52 = .ok (.getfield 89, 3) := by decide +kernel
theorem dX8_count_55 : decode cX8_count 55 = .ok (.ireturn, 1) := by decide +kernel
theorem dX8_count_56 : decode cX8_count 56 = .ok (.aload_n 0, 1) := by decide +kernel
theorem dX8_count_57 : decode cX8_count 57 = .ok (.getfield 19, 3) := by decide +kernel
theorem dX8_count_60 : decode cX8_count 60 = .ok (.getfield 96, 3) := by decide +kernel
theorem dX8_count_63 : decode cX8_count 63 = .ok (.ireturn, 1) := by decide +kernel
theorem dX8_count_64 : decode cX8_count 64 = .ok (.aload_n 0, 1) := by decide +kernel
theorem dX8_count_65 : decode cX8_count 65 = .ok (.getfield 12, 3) := by decide +kernel
theorem dX8_count_68 : decode cX8_count 68 = .ok (.invokevirtual 209, 3) := by decide +kernel
theorem dX8_count_71 : decode cX8_count 71 = .ok (.ireturn, 1) := by decide +kernel
theorem dX8_count_72 : decode cX8_count 72 = .ok (.aload_n 0, 1) := by decide +kernel
theorem dX8_count_73 : decode cX8_count 73 = .ok (.getfield 26, 3) := by decide +kernel
theorem dX8_count_76 : decode cX8_count 76 = .ok (.getfield 109, 3) := by decide +kernel
theorem dX8_count_79 : decode cX8_count 79 = .ok (.ireturn, 1) := by decide +kernel
theorem dX8_count_80 : decode cX8_count 80 = .ok (.aload_n 0, 1) := by decide +kernel
theorem dX8_count_81 : decode cX8_count 81 = .ok (.getfield 12, 3) := by decide +kernel
theorem dX8_count_84 : decode cX8_count 84 = .ok (.invokevirtual 177, 3) := by decide +kernel
theorem dX8_count_87 : decode cX8_count 87 = .ok (.ifCond .eq 7, 3) := by decide +kernel
theorem dX8_count_90 : decode cX8_count 90 = .ok (.iconst 1, 1) := by decide +kernel
theorem dX8_count_91 : decode cX8_count 91 = .ok (.goto 4, 3) := by decide +kernel
theorem dX8_count_94 : decode cX8_count 94 = .ok (.iconst 0, 1) := by decide +kernel
theorem dX8_count_95 : decode cX8_count 95 = .ok (.ireturn, 1) := by decide +kernel
theorem dX8_count_96 : decode cX8_count 96 = .ok (.bipush (-3), 2) := by decide +kernel
theorem dX8_count_98 : decode cX8_count 98 = .ok (.ireturn, 1) := by decide +kernel
theorem dX8_refusalOfMoving_0 : decode cX8_refusalOfMoving 0 = .ok (.aload_n 0, 1) := by decide +kernel
theorem dX8_refusalOfMoving_1 : decode cX8_refusalOfMoving 1 = .ok (.getfield 19, 3) := by decide +kernel
theorem dX8_refusalOfMoving_4 : decode cX8_refusalOfMoving 4 = .ok (.iload_n 1, 1) := by decide +kernel
theorem dX8_refusalOfMoving_5 : decode cX8_refusalOfMoving 5 = .ok (.invokevirtual 99, 3) := by decide +kernel
theorem dX8_refusalOfMoving_8 : decode cX8_refusalOfMoving 8 = .ok (.ifCond .eq 14, 3) := by decide +kernel
theorem dX8_refusalOfMoving_11 : decode cX8_refusalOfMoving 11 = .ok (.aload_n 0, 1) := by decide +kernel
theorem dX8_refusalOfMoving_12 : decode cX8_refusalOfMoving 12 = .ok (.getfield 19, 3) := by decide +kernel
theorem dX8_refusalOfMoving_15 : decode cX8_refusalOfMoving 15 = .ok (.iload_n 2, 1) := by decide +kernel
theorem dX8_refusalOfMoving_16 : decode cX8_refusalOfMoving 16 = .ok (.invokevirtual 99, 3) := by decide +kernel
theorem dX8_refusalOfMoving_19 : decode cX8_refusalOfMoving 19 = .ok (.ifCond .ne 6, 3) := by decide +kernel
theorem dX8_refusalOfMoving_22 : decode cX8_refusalOfMoving 22 = .ok (.bipush (-2), 2) := by decide +kernel
theorem dX8_refusalOfMoving_24 : decode cX8_refusalOfMoving 24 = .ok (.ireturn, 1) := by decide +kernel
theorem dX8_refusalOfMoving_25 : decode cX8_refusalOfMoving 25 = .ok (.aload_n 0, 1) := by decide +kernel
theorem dX8_refusalOfMoving_26 : decode cX8_refusalOfMoving 26 = .ok (.getfield 12, 3) := by decide +kernel
theorem dX8_refusalOfMoving_29 : decode cX8_refusalOfMoving 29 = .ok (.invokevirtual 177, 3) := by decide +kernel
theorem dX8_refusalOfMoving_32 : decode cX8_refusalOfMoving 32 = .ok (.ifCond .eq 22, 3) := by decide +kernel
theorem dX8_refusalOfMoving_35 : decode cX8_refusalOfMoving 35 = .ok (.aload_n 0, 1) := by decide +kernel
theorem dX8_refusalOfMoving_36 : decode cX8_refusalOfMoving 36 = .ok (.getfield 19, 3) := by decide +kernel
theorem dX8_refusalOfMoving_39 : decode cX8_refusalOfMoving 39 = .ok (.iload_n 1, 1) := by decide +kernel
theorem dX8_refusalOfMoving_40 : decode cX8_refusalOfMoving 40 = .ok (.invokevirtual 130, 3) := by decide +kernel
theorem dX8_refusalOfMoving_43 : decode cX8_refusalOfMoving 43 = .ok (.aload_n 0, 1) := by decide +kernel
theorem dX8_refusalOfMoving_44 : decode cX8_refusalOfMoving 44 = .ok (.getfield 19, 3) := by decide +kernel
theorem dX8_refusalOfMoving_47 : decode cX8_refusalOfMoving 47 = .ok (.iload_n 2, 1) := by decide +kernel
theorem dX8_refusalOfMoving_48 : decode cX8_refusalOfMoving 48 = .ok (.invokevirtual 130, 3) := by decide +kernel
theorem dX8_refusalOfMoving_51 : decode cX8_refusalOfMoving 51 = .ok (.if_icmp .eq 6, 3) := by decide +kernel
theorem dX8_refusalOfMoving_54 : decode cX8_refusalOfMoving 54 = .ok (.bipush (-4), 2) := by decide +kernel
theorem dX8_refusalOfMoving_56 : decode cX8_refusalOfMoving 56 = .ok (.ireturn, 1) := by decide +kernel
theorem dX8_refusalOfMoving_57 : decode cX8_refusalOfMoving 57 = .ok (.iconst 0, 1) := by decide +kernel
theorem dX8_refusalOfMoving_58 : decode cX8_refusalOfMoving 58 = .ok (.ireturn, 1) := by decide +kernel
theorem dX8_refusalAtPlaces_0 : decode cX8_refusalAtPlaces 0 = .ok (.aload_n 0, 1) := by decide +kernel
theorem dX8_refusalAtPlaces_1 : decode cX8_refusalAtPlaces 1 = .ok (.getfield 12, 3) := by decide +kernel
theorem dX8_refusalAtPlaces_4 : decode cX8_refusalAtPlaces 4 = .ok (.iload_n 3, 1) := by decide +kernel
theorem dX8_refusalAtPlaces_5 : decode cX8_refusalAtPlaces 5 = .ok (.invokevirtual 85, 3) := by decide +kernel
theorem dX8_refusalAtPlaces_8 : decode cX8_refusalAtPlaces 8 = .ok (.ifCond .eq 15, 3) := by decide +kernel
theorem dX8_refusalAtPlaces_11 : decode cX8_refusalAtPlaces 11 = .ok (.aload_n 0, 1) := by decide +kernel
theorem dX8_refusalAtPlaces_12 : decode cX8_refusalAtPlaces 12 = .ok (.getfield 12, 3) := by decide +kernel
theorem dX8_refusalAtPlaces_15 : decode cX8_refusalAtPlaces 15 = .ok (.iload 4, 2) := by decide +kernel
theorem dX8_refusalAtPlaces_17 : decode cX8_refusalAtPlaces 17 = .ok (.invokevirtual 85, 3) := by decide +kernel
theorem dX8_refusalAtPlaces_20 : decode cX8_refusalAtPlaces 20 = .ok (.ifCond .ne 6, 3) := by decide +kernel
theorem dX8_refusalAtPlaces_23 : decode cX8_refusalAtPlaces 23 = .ok (.bipush (-2), 2) := by decide +kernel
theorem dX8_refusalAtPlaces_25 : decode cX8_refusalAtPlaces 25 = .ok (.ireturn, 1) := by decide +kernel
theorem dX8_refusalAtPlaces_26 : decode cX8_refusalAtPlaces 26 = .ok (.aload_n 0, 1) := by decide +kernel
theorem dX8_refusalAtPlaces_27 : decode cX8_refusalAtPlaces 27 = .ok (.iload_n 1, 1) := by decide +kernel
theorem dX8_refusalAtPlaces_28 : decode cX8_refusalAtPlaces 28 = .ok (.iload_n 2, 1) := by decide +kernel
theorem dX8_refusalAtPlaces_29 : decode cX8_refusalAtPlaces 29 = .ok (.invokevirtual 134, 3) := by decide +kernel
theorem dX8_refusalAtPlaces_32 : decode cX8_refusalAtPlaces 32 = .ok (.ireturn, 1) := by decide +kernel
theorem dX8_leastCost_0 : decode cX8_leastCost 0 = .ok (.aload_n 0, 1) := by decide +kernel
theorem dX8_leastCost_1 : decode cX8_leastCost 1 = .ok (.getfield 40, 3) := by decide +kernel
theorem dX8_leastCost_4 : decode cX8_leastCost 4 = .ok (.aload_n 0, 1) := by decide +kernel
theorem dX8_leastCost_5 : decode cX8_leastCost 5 = .ok (.getfield 12, 3) := by decide +kernel
theorem dX8_leastCost_8 : decode cX8_leastCost 8 = .ok (.aload_n 0, 1) := by decide +kernel
theorem dX8_leastCost_9 : decode cX8_leastCost 9 = .ok (.getfield 19, 3) := by decide +kernel
theorem dX8_leastCost_12 : decode cX8_leastCost 12 = .ok (.getfield 100, 3) := by decide +kernel
theorem dX8_leastCost_15 : decode cX8_leastCost 15 = .ok (.iload_n 1, 1) := by decide +kernel
theorem dX8_leastCost_16 : decode cX8_leastCost 16 = .ok (.aaload, 1) := by decide +kernel
theorem dX8_leastCost_17 : decode cX8_leastCost 17 = .ok (.aload_n 0, 1) := by decide +kernel
theorem dX8_leastCost_18 : decode cX8_leastCost 18 = .ok (.getfield 19, 3) := by decide +kernel
theorem dX8_leastCost_21 : decode cX8_leastCost 21 = .ok (.getfield 100, 3) := by decide +kernel
theorem dX8_leastCost_24 : decode cX8_leastCost 24 = .ok (.iload_n 2, 1) := by decide +kernel
theorem dX8_leastCost_25 : decode cX8_leastCost 25 = .ok (.aaload, 1) := by decide +kernel
theorem dX8_leastCost_26 : decode cX8_leastCost 26 = .ok (.aload_n 0, 1) := by decide +kernel
theorem dX8_leastCost_27 : decode cX8_leastCost 27 = .ok (.getfield 19, 3) := by decide +kernel
theorem dX8_leastCost_30 : decode cX8_leastCost 30 = .ok (.iload_n 1, 1) := by decide +kernel
theorem dX8_leastCost_31 : decode cX8_leastCost 31 = .ok (.invokevirtual 130, 3) := by decide +kernel
theorem dX8_leastCost_34 : decode cX8_leastCost 34 = .ok (.invokevirtual 181, 3) := by decide +kernel
theorem dX8_leastCost_37 : decode cX8_leastCost 37 = .ok (.ireturn, 1) := by decide +kernel
theorem dX8_makePlan_0 : decode cX8_makePlan 0 = .ok (.aload_n 0, 1) := by decide +kernel
theorem dX8_makePlan_1 : decode cX8_makePlan 1 = .ok (.getfield 58, 3) := by decide +kernel
theorem dX8_makePlan_4 : decode cX8_makePlan 4 = .ok (.iload_n 1, 1) := by decide +kernel
theorem dX8_makePlan_5 : decode cX8_makePlan 5 = .ok (.if_icmp .ne 12, 3) := by decide +kernel
theorem dX8_makePlan_8 : decode cX8_makePlan 8 = .ok (.aload_n 0, 1) := by decide +kernel
theorem dX8_makePlan_9 : decode cX8_makePlan 9 = .ok (.getfield 62, 3) := by decide +kernel
theorem dX8_makePlan_12 : decode cX8_makePlan 12 = .ok (.iload_n 2, 1) := by decide +kernel
theorem dX8_makePlan_13 : decode cX8_makePlan 13 = .ok (.if_icmp .ne 4, 3) := by decide +kernel
theorem dX8_makePlan_16 : decode cX8_makePlan 16 = .ok (.return_, 1) := by decide +kernel
theorem dX8_makePlan_17 : decode cX8_makePlan 17 = .ok (.aload_n 0, 1) := by decide +kernel
theorem dX8_makePlan_18 : decode cX8_makePlan 18 = .ok (.getfield 47, 3) := by decide +kernel
theorem dX8_makePlan_21 : decode cX8_makePlan 21 = .ok (.aload_n 0, 1) := by decide +kernel
theorem dX8_makePlan_22 : decode cX8_makePlan 22 = .ok (.getfield 12, 3) := by decide +kernel
theorem dX8_makePlan_25 : decode cX8_makePlan 25 = .ok (.aload_n 0, 1) := by decide +kernel
theorem dX8_makePlan_26 : decode cX8_makePlan 26 = .ok (.getfield 40, 3) := by decide +kernel
theorem dX8_makePlan_29 : decode cX8_makePlan 29 = .ok (.aload_n 0, 1) := by decide +kernel
theorem dX8_makePlan_30 : decode cX8_makePlan 30 = .ok (.getfield 19, 3) := by decide +kernel
theorem dX8_makePlan_33 : decode cX8_makePlan 33 = .ok (.getfield 100, 3) := by decide +kernel
theorem dX8_makePlan_36 : decode cX8_makePlan 36 = .ok (.iload_n 1, 1) := by decide +kernel
theorem dX8_makePlan_37 : decode cX8_makePlan 37 = .ok (.aaload, 1) := by decide +kernel
theorem dX8_makePlan_38 : decode cX8_makePlan 38 = .ok (.aload_n 0, 1) := by decide +kernel
theorem dX8_makePlan_39 : decode cX8_makePlan 39 = .ok (.getfield 19, 3) := by decide +kernel
theorem dX8_makePlan_42 : decode cX8_makePlan 42 = .ok (.getfield 100, 3) := by decide +kernel
theorem dX8_makePlan_45 : decode cX8_makePlan 45 = .ok (.iload_n 2, 1) := by decide +kernel
theorem dX8_makePlan_46 : decode cX8_makePlan 46 = .ok (.aaload, 1) := by decide +kernel
theorem dX8_makePlan_47 : decode cX8_makePlan 47 = .ok (.aload_n 0, 1) := by decide +kernel
theorem dX8_makePlan_48 : decode cX8_makePlan 48 = .ok (.getfield 19, 3) := by decide +kernel
theorem dX8_makePlan_51 : decode cX8_makePlan 51 = .ok (.iload_n 1, 1) := by decide +kernel
theorem dX8_makePlan_52 : decode cX8_makePlan 52 = .ok (.invokevirtual 130, 3) := by decide +kernel
theorem dX8_makePlan_55 : decode cX8_makePlan 55 = .ok (.invokevirtual 212, 3) := by decide +kernel
theorem dX8_makePlan_58 : decode cX8_makePlan 58 = .ok (.aload_n 0, 1) := by decide +kernel
theorem dX8_makePlan_59 : decode cX8_makePlan 59 = .ok (.iload_n 1, 1) := by decide +kernel
theorem dX8_makePlan_60 : decode cX8_makePlan 60 = .ok (.putfield 58, 3) := by decide +kernel
theorem dX8_makePlan_63 : decode cX8_makePlan 63 = .ok (.aload_n 0, 1) := by decide +kernel
theorem dX8_makePlan_64 : decode cX8_makePlan 64 = .ok (.iload_n 2, 1) := by decide +kernel
theorem dX8_makePlan_65 : decode cX8_makePlan 65 = .ok (.putfield 62, 3) := by decide +kernel
theorem dX8_makePlan_68 : decode cX8_makePlan 68 = .ok (.return_, 1) := by decide +kernel
theorem dX8_makeReach_0 : decode cX8_makeReach 0 = .ok (.aload_n 0, 1) := by decide +kernel
theorem dX8_makeReach_1 : decode cX8_makeReach 1 = .ok (.getfield 65, 3) := by decide +kernel
theorem dX8_makeReach_4 : decode cX8_makeReach 4 = .ok (.iload_n 1, 1) := by decide +kernel
theorem dX8_makeReach_5 : decode cX8_makeReach 5 = .ok (.if_icmp .ne 12, 3) := by decide +kernel
theorem dX8_makeReach_8 : decode cX8_makeReach 8 = .ok (.aload_n 0, 1) := by decide +kernel
theorem dX8_makeReach_9 : decode cX8_makeReach 9 = .ok (.getfield 68, 3) := by decide +kernel
theorem dX8_makeReach_12 : decode cX8_makeReach 12 = .ok (.iload_n 2, 1) := by decide +kernel
theorem dX8_makeReach_13 : decode cX8_makeReach 13 = .ok (.if_icmp .ne 4, 3) := by decide +kernel
theorem dX8_makeReach_16 : decode cX8_makeReach 16 = .ok (.return_, 1) := by decide +kernel
theorem dX8_makeReach_17 : decode cX8_makeReach 17 = .ok (.aload_n 0, 1) := by decide +kernel
theorem dX8_makeReach_18 : decode cX8_makeReach 18 = .ok (.getfield 54, 3) := by decide +kernel
theorem dX8_makeReach_21 : decode cX8_makeReach 21 = .ok (.aload_n 0, 1) := by decide +kernel
theorem dX8_makeReach_22 : decode cX8_makeReach 22 = .ok (.getfield 12, 3) := by decide +kernel
theorem dX8_makeReach_25 : decode cX8_makeReach 25 = .ok (.aload_n 0, 1) := by decide +kernel
theorem dX8_makeReach_26 : decode cX8_makeReach 26 = .ok (.getfield 19, 3) := by decide +kernel
theorem dX8_makeReach_29 : decode cX8_makeReach 29 = .ok (.getfield 100, 3) := by decide +kernel
theorem dX8_makeReach_32 : decode cX8_makeReach 32 = .ok (.iload_n 1, 1) := by decide +kernel
theorem dX8_makeReach_33 : decode cX8_makeReach 33 = .ok (.aaload, 1) := by decide +kernel
theorem dX8_makeReach_34 : decode cX8_makeReach 34 = .ok (.aload_n 0, 1) := by decide +kernel
theorem dX8_makeReach_35 : decode cX8_makeReach 35 = .ok (.getfield 19, 3) := by decide +kernel
theorem dX8_makeReach_38 : decode cX8_makeReach 38 = .ok (.getfield 100, 3) := by decide +kernel
theorem dX8_makeReach_41 : decode cX8_makeReach 41 = .ok (.iload_n 2, 1) := by decide +kernel
theorem dX8_makeReach_42 : decode cX8_makeReach 42 = .ok (.aaload, 1) := by decide +kernel
theorem dX8_makeReach_43 : decode cX8_makeReach 43 = .ok (.aload_n 0, 1) := by decide +kernel
theorem dX8_makeReach_44 : decode cX8_makeReach 44 = .ok (.getfield 19, 3) := by decide +kernel
theorem dX8_makeReach_47 : decode cX8_makeReach 47 = .ok (.iload_n 1, 1) := by decide +kernel
theorem dX8_makeReach_48 : decode cX8_makeReach 48 = .ok (.invokevirtual 130, 3) := by decide +kernel
theorem dX8_makeReach_51 : decode cX8_makeReach 51 = .ok (.invokevirtual 216, 3) := by decide +kernel
theorem dX8_makeReach_54 : decode cX8_makeReach 54 = .ok (.aload_n 0, 1) := by decide +kernel
theorem dX8_makeReach_55 : decode cX8_makeReach 55 = .ok (.iload_n 1, 1) := by decide +kernel
theorem dX8_makeReach_56 : decode cX8_makeReach 56 = .ok (.putfield 65, 3) := by decide +kernel
theorem dX8_makeReach_59 : decode cX8_makeReach 59 = .ok (.aload_n 0, 1) := by decide +kernel
theorem dX8_makeReach_60 : decode cX8_makeReach 60 = .ok (.iload_n 2, 1) := by decide +kernel
theorem dX8_makeReach_61 : decode cX8_makeReach 61 = .ok (.putfield 68, 3) := by decide +kernel
theorem dX8_makeReach_64 : decode cX8_makeReach 64 = .ok (.return_, 1) := by decide +kernel
theorem dX8_noteChange_0 : decode cX8_noteChange 0 = .ok (.aload_n 0, 1) := by decide +kernel
theorem dX8_noteChange_1 : decode cX8_noteChange 1 = .ok (.getfield 26, 3) := by decide +kernel
theorem dX8_noteChange_4 : decode cX8_noteChange 4 = .ok (.iload_n 1, 1) := by decide +kernel
theorem dX8_noteChange_5 : decode cX8_noteChange 5 = .ok (.iload_n 2, 1) := by decide +kernel
theorem dX8_noteChange_6 : decode cX8_noteChange 6 = .ok (.iload_n 3, 1) := by decide +kernel
theorem dX8_noteChange_7 : decode cX8_noteChange 7 = .ok (.iload 4, 2) := by decide +kernel
theorem dX8_noteChange_9 : decode cX8_noteChange 9 = .ok (.invokevirtual 219, 3) := by decide +kernel
theorem dX8_noteChange_12 : decode cX8_noteChange 12 = .ok (.aload_n 0, 1) := by decide +kernel
theorem dX8_noteChange_13 : decode cX8_noteChange 13 = .ok (.invokevirtual 119, 3) := by decide +kernel
theorem dX8_noteChange_16 : decode cX8_noteChange 16 = .ok (.return_, 1) := by decide +kernel
theorem dX8_forgetResults_0 : decode cX8_forgetResults 0 = .ok (.aload_n 0, 1) := by decide +kernel
theorem dX8_forgetResults_1 : decode cX8_forgetResults 1 = .ok (.iconst (-1), 1) := by decide +kernel
theorem dX8_forgetResults_2 : decode cX8_forgetResults 2 = .ok (.putfield 58, 3) := by decide +kernel
theorem dX8_forgetResults_5 : decode cX8_forgetResults 5 = .ok (.aload_n 0, 1) := by decide +kernel
theorem dX8_forgetResults_6 : decode cX8_forgetResults 6 = .ok (.iconst (-1), 1) := by decide +kernel
theorem dX8_forgetResults_7 : decode cX8_forgetResults 7 = .ok (.putfield 65, 3) := by decide +kernel
theorem dX8_forgetResults_10 : decode cX8_forgetResults 10 = .ok (.return_, 1) := by decide +kernel
theorem dX8_takeBack_0 : decode cX8_takeBack 0 = .ok (.aload_n 0, 1) := by decide +kernel
theorem dX8_takeBack_1 : decode cX8_takeBack 1 = .ok (.getfield 26, 3) := by decide +kernel
theorem dX8_takeBack_4 : decode cX8_takeBack 4 = .ok (.getfield 222, 3) := by decide +kernel
theorem dX8_takeBack_7 : decode cX8_takeBack 7 = .ok (.iload_n 1, 1) := by decide +kernel
theorem dX8_takeBack_8 : decode cX8_takeBack 8 = .ok (.iaload, 1) := by decide +kernel
theorem dX8_takeBack_9 : decode cX8_takeBack 9 = .ok (.istore_n 2, 1) := by decide +kernel
theorem dX8_takeBack_10 : decode cX8_takeBack 10 = .ok (.aload_n 0, 1) := by decide +kernel
theorem dX8_takeBack_11 : decode cX8_takeBack 11 = .ok (.getfield 26, 3) := by decide +kernel
theorem dX8_takeBack_14 : decode cX8_takeBack 14 = .ok (.getfield 225, 3) := by decide +kernel
theorem dX8_takeBack_17 : decode cX8_takeBack 17 = .ok (.iload_n 1, 1) := by decide +kernel
theorem dX8_takeBack_18 : decode cX8_takeBack 18 = .ok (.iaload, 1) := by decide +kernel
theorem dX8_takeBack_19 : decode cX8_takeBack 19 = .ok (.istore_n 3, 1) := by decide +kernel
theorem dX8_takeBack_20 : decode cX8_takeBack 20 = .ok (.aload_n 0, 1) := by decide +kernel
theorem dX8_takeBack_21 : decode cX8_takeBack 21 = .ok (.getfield 26, 3) := by decide +kernel
theorem dX8_takeBack_24 : decode cX8_takeBack 24 = .ok (.getfield 228, 3) := by decide +kernel
theorem dX8_takeBack_27 : decode cX8_takeBack 27 = .ok (.iload_n 1, 1) := by decide +kernel
theorem dX8_takeBack_28 : decode cX8_takeBack 28 = .ok (.iaload, 1) := by decide +kernel
theorem dX8_takeBack_29 : decode cX8_takeBack 29 = .ok (.tableswitch 98 0 3 #[31, 49, 59, 75], 31) := by decide +kernel
theorem dX8_takeBack_60 : decode cX8_takeBack 60 = .ok (.aload_n 0, 1) := by decide +kernel
theorem dX8_takeBack_61 : decode cX8_takeBack 61 = .ok (.getfield 12, 3) := by decide +kernel
theorem dX8_takeBack_64 : decode cX8_takeBack 64 = .ok (.invokevirtual 231, 3) := by decide +kernel
theorem dX8_takeBack_67 : decode cX8_takeBack 67 = .ok (.aload_n 0, 1) := by decide +kernel
theorem dX8_takeBack_68 : decode cX8_takeBack 68 = .ok (.getfield 33, 3) := by decide +kernel
theorem dX8_takeBack_71 : decode cX8_takeBack 71 = .ok (.iload_n 2, 1) := by decide +kernel
theorem dX8_takeBack_72 : decode cX8_takeBack 72 = .ok (.invokevirtual 234, 3) := by decide +kernel
theorem dX8_takeBack_75 : decode cX8_takeBack 75 = .ok (.goto 70, 3) := by decide +kernel
theorem dX8_takeBack_78 : decode cX8_takeBack 78 = .ok (.aload_n 0, 1) := by decide +kernel
theorem dX8_takeBack_79 : decode cX8_takeBack 79 = .ok (.getfield 12, 3) := by decide +kernel
theorem dX8_takeBack_82 : decode cX8_takeBack 82 = .ok (.invokevirtual 237, 3) := by decide +kernel
theorem dX8_takeBack_85 : decode cX8_takeBack 85 = .ok (.goto 60, 3) := by decide +kernel
theorem dX8_takeBack_88 : decode cX8_takeBack 88 = .ok (.aload_n 0, 1) := by decide +kernel
theorem dX8_takeBack_89 : decode cX8_takeBack 89 = .ok (.getfield 19, 3) := by decide +kernel
theorem dX8_takeBack_92 : decode cX8_takeBack 92 = .ok (.dup, 1) := by decide +kernel
theorem dX8_takeBack_93 : decode cX8_takeBack 93 = .ok (.getfield 96, 3) := by decide +kernel
theorem dX8_takeBack_96 : decode cX8_takeBack 96 = .ok (.iconst 1, 1) := by decide +kernel
theorem dX8_takeBack_97 : decode cX8_takeBack 97 = .ok (.isub, 1) := by decide +kernel
theorem dX8_takeBack_98 : decode cX8_takeBack 98 = .ok (.putfield 96, 3) := by decide +kernel
theorem dX8_takeBack_101 : decode cX8_takeBack 101 = .ok (.goto 44, 3) := by decide +kernel
theorem dX8_takeBack_104 : decode cX8_takeBack 104 = .ok (.aload_n 0, 1) := by decide +kernel
theorem dX8_takeBack_105 : decode cX8_takeBack 105 = .ok (.getfield 19, 3) := by decide +kernel
theorem dX8_takeBack_108 : decode cX8_takeBack 108 = .ok (.getfield 100, 3) := by decide +kernel
theorem dX8_takeBack_111 : decode cX8_takeBack 111 = .ok (.iload_n 2, 1) := by decide +kernel
theorem dX8_takeBack_112 : decode cX8_takeBack 112 = .ok (.aaload, 1) := by decide +kernel
theorem dX8_takeBack_113 : decode cX8_takeBack 113 = .ok (.iload_n 3, 1) := by decide +kernel
theorem dX8_takeBack_114 : decode cX8_takeBack 114 = .ok (.aload_n 0, 1) := by decide +kernel
theorem dX8_takeBack_115 : decode cX8_takeBack 115 = .ok (.getfield 26, 3) := by decide +kernel
theorem dX8_takeBack_118 : decode cX8_takeBack 118 = .ok (.getfield 240, 3) := by decide +kernel
theorem dX8_takeBack_121 : decode cX8_takeBack 121 = .ok (.iload_n 1, 1) := by decide +kernel
theorem dX8_takeBack_122 : decode cX8_takeBack 122 = .ok (.iaload, 1) := by decide +kernel
theorem dX8_takeBack_123 : decode cX8_takeBack 123 = .ok (.iastore, 1) := by decide +kernel
theorem dX8_takeBack_124 : decode cX8_takeBack 124 = .ok (.goto 21, 3) := by decide +kernel
theorem dX8_takeBack_127 : decode cX8_takeBack 127 = .ok (.aload_n 0, 1) := by decide +kernel
theorem dX8_takeBack_128 : decode cX8_takeBack 128 = .ok (.getfield 12, 3) := by decide +kernel
theorem dX8_takeBack_131 : decode cX8_takeBack 131 = .ok (.getfield 105, 3) := by decide +kernel
theorem dX8_takeBack_134 : decode cX8_takeBack 134 = .ok (.iload_n 2, 1) := by decide +kernel
theorem dX8_takeBack_135 : decode cX8_takeBack 135 = .ok (.aload_n 0, 1) := by decide +kernel
theorem dX8_takeBack_136 : decode cX8_takeBack 136 = .ok (.getfield 26, 3) := by decide +kernel
theorem dX8_takeBack_139 : decode cX8_takeBack 139 = .ok (.getfield 240, 3) := by decide +kernel
theorem dX8_takeBack_142 : decode cX8_takeBack 142 = .ok (.iload_n 1, 1) := by decide +kernel
theorem dX8_takeBack_143 : decode cX8_takeBack 143 = .ok (.iaload, 1) := by decide +kernel
theorem dX8_takeBack_144 : decode cX8_takeBack 144 = .ok (.iastore, 1) := by decide +kernel
theorem dX8_takeBack_145 : decode cX8_takeBack 145 = .ok (.return_, 1) := by decide +kernel
theorem dJ9_min_7cf53_0 : decode cJ9_min_7cf53 0 = .ok (.iload_n 0, 1) := by decide +kernel
theorem dJ9_min_7cf53_1 : decode cJ9_min_7cf53 1 = .ok (.iload_n 1, 1) := by decide +kernel
theorem dJ9_min_7cf53_2 : decode cJ9_min_7cf53 2 = .ok (.if_icmp .gt 7, 3) := by decide +kernel
theorem dJ9_min_7cf53_5 : decode cJ9_min_7cf53 5 = .ok (.iload_n 0, 1) := by decide +kernel
theorem dJ9_min_7cf53_6 : decode cJ9_min_7cf53 6 = .ok (.goto 4, 3) := by decide +kernel
theorem dJ9_min_7cf53_9 : decode cJ9_min_7cf53 9 = .ok (.iload_n 1, 1) := by decide +kernel
theorem dJ9_min_7cf53_10 : decode cJ9_min_7cf53 10 = .ok (.ireturn, 1) := by decide +kernel
theorem dJ7_fill_53178_0 : decode cJ7_fill_53178 0 = .ok (.iconst 0, 1) := by decide +kernel
theorem dJ7_fill_53178_1 : decode cJ7_fill_53178 1 = .ok (.istore_n 2, 1) := by decide +kernel
theorem dJ7_fill_53178_2 : decode cJ7_fill_53178 2 = .ok (.aload_n 0, 1) := by decide +kernel
theorem dJ7_fill_53178_3 : decode cJ7_fill_53178 3 = .ok (.arraylength, 1) := by decide +kernel
theorem dJ7_fill_53178_4 : decode cJ7_fill_53178 4 = .ok (.istore_n 3, 1) := by decide +kernel
theorem dJ7_fill_53178_5 : decode cJ7_fill_53178 5 = .ok (.iload_n 2, 1) := by decide +kernel
theorem dJ7_fill_53178_6 : decode cJ7_fill_53178 6 = .ok (.iload_n 3, 1) := by decide +kernel
theorem dJ7_fill_53178_7 : decode cJ7_fill_53178 7 = .ok (.if_icmp .ge 13, 3) := by decide +kernel
theorem dJ7_fill_53178_10 : decode cJ7_fill_53178 10 = .ok (.aload_n 0, 1) := by decide +kernel
theorem dJ7_fill_53178_11 : decode cJ7_fill_53178 11 = .ok (.iload_n 2, 1) := by decide +kernel
theorem dJ7_fill_53178_12 : decode cJ7_fill_53178 12 = .ok (.iload_n 1, 1) := by decide +kernel
theorem dJ7_fill_53178_13 : decode cJ7_fill_53178 13 = .ok (.iastore, 1) := by decide +kernel
theorem dJ7_fill_53178_14 : decode cJ7_fill_53178 14 = .ok (.iinc 2 1, 3) := by decide +kernel
theorem dJ7_fill_53178_17 : decode cJ7_fill_53178 17 = .ok (.goto (-12), 3) := by decide +kernel
theorem dJ7_fill_53178_20 : decode cJ7_fill_53178 20 = .ok (.return_, 1) := by decide +kernel
end
